theorem dL_law_0 : decode cL_law 0 = .ok (.new 8, 3) := dc_187 (byA eNcL_law (p := 0) (v := 187) (by decide +kernel)) (byA eNcL_law (p := 1) (v := 0) (by decide +kernel)) (byA eNcL_law (p := 2) (v := 8) (by decide +kernel)) rfl
theorem dL_law_3 : decode cL_law 3 = .ok (.dup, 1) := dc_89 (byA eNcL_law (p := 3) (v := 89) (by decide +kernel))
theorem dL_law_4 : decode cL_law 4 = .ok (.invokespecial 15, 3) := dc_183 (byA eNcL_law (p := 4) (v := 183) (by decide +kernel)) (byA eNcL_law (p := 5) (v := 0) (by decide +kernel)) (byA eNcL_law (p := 6) (v := 15) (by decide +kernel)) rfl
theorem dL_law_7 : decode cL_law 7 = .ok (.astore_n 1, 1) := dc_76 (byA eNcL_law (p := 7) (v := 76) (by decide +kernel))
theorem dL_law_8 : decode cL_law 8 = .ok (.new 16, 3) := dc_187 (byA eNcL_law (p := 8) (v := 187) (by decide +kernel)) (byA eNcL_law (p := 9) (v := 0) (by decide +kernel)) (byA eNcL_law (p := 10) (v := 16) (by decide +kernel)) rfl
theorem dL_law_11 : decode cL_law 11 = .ok (.dup, 1) := dc_89 (byA eNcL_law (p := 11) (v := 89) (by decide +kernel))
theorem dL_law_12 : decode cL_law 12 = .ok (.invokespecial 18, 3) := dc_183 (byA eNcL_law (p := 12) (v := 183) (by decide +kernel)) (byA eNcL_law (p := 13) (v := 0) (by decide +kernel)) (byA eNcL_law (p := 14) (v := 18) (by decide +kernel)) rfl
theorem dL_law_15 : decode cL_law 15 = .ok (.astore_n 2, 1) := dc_77 (byA eNcL_law (p := 15) (v := 77) (by decide +kernel))
theorem dL_law_16 : decode cL_law 16 = .ok (.iconst 1, 1) := dc_4 (byA eNcL_law (p := 16) (v := 4) (by decide +kernel))
theorem dL_law_17 : decode cL_law 17 = .ok (.newarray .long, 2) := by decide +kernel
theorem dL_law_19 : decode cL_law 19 = .ok (.astore_n 3, 1) := dc_78 (byA eNcL_law (p := 19) (v := 78) (by decide +kernel))
theorem dL_law_20 : decode cL_law 20 = .ok (.iconst 0, 1) := dc_3 (byA eNcL_law (p := 20) (v := 3) (by decide +kernel))
theorem dL_law_21 : decode cL_law 21 = .ok (.istore 4, 2) := dc_54 (byA eNcL_law (p := 21) (v := 54) (by decide +kernel)) (byA eNcL_law (p := 22) (v := 4) (by decide +kernel))
theorem dL_law_23 : decode cL_law 23 = .ok (.iload 4, 2) := dc_21 (byA eNcL_law (p := 23) (v := 21) (by decide +kernel)) (byA eNcL_law (p := 24) (v := 4) (by decide +kernel))
theorem dL_law_25 : decode cL_law 25 = .ok (.aload_n 0, 1) := dc_42 (byA eNcL_law (p := 25) (v := 42) (by decide +kernel))
theorem dL_law_26 : decode cL_law 26 = .ok (.arraylength, 1) := dc_190 (byA eNcL_law (p := 26) (v := 190) (by decide +kernel))
theorem dL_law_27 : decode cL_law 27 = .ok (.bipush 6, 2) := dc_16 (byA eNcL_law (p := 27) (v := 16) (by decide +kernel)) (byA eNcL_law (p := 28) (v := 6) (by decide +kernel)) (by decide +kernel)
theorem dL_law_29 : decode cL_law 29 = .ok (.isub, 1) := dc_100 (byA eNcL_law (p := 29) (v := 100) (by decide +kernel))
theorem dL_law_30 : decode cL_law 30 = .ok (.if_icmp .gt 1557, 3) := dc_163 (byA eNcL_law (p := 30) (v := 163) (by decide +kernel)) (byA eNcL_law (p := 31) (v := 6) (by decide +kernel)) (byA eNcL_law (p := 32) (v := 21) (by decide +kernel)) (by decide +kernel)
theorem dL_law_33 : decode cL_law 33 = .ok (.aload_n 0, 1) := dc_42 (byA eNcL_law (p := 33) (v := 42) (by decide +kernel))
theorem dL_law_34 : decode cL_law 34 = .ok (.iload 4, 2) := dc_21 (byA eNcL_law (p := 34) (v := 21) (by decide +kernel)) (byA eNcL_law (p := 35) (v := 4) (by decide +kernel))
theorem dL_law_36 : decode cL_law 36 = .ok (.iaload, 1) := dc_46 (byA eNcL_law (p := 36) (v := 46) (by decide +kernel))
theorem dL_law_37 : decode cL_law 37 = .ok (.bipush 63, 2) := dc_16 (byA eNcL_law (p := 37) (v := 16) (by decide +kernel)) (byA eNcL_law (p := 38) (v := 63) (by decide +kernel)) (by decide +kernel)
theorem dL_law_39 : decode cL_law 39 = .ok (.iand, 1) := dc_126 (byA eNcL_law (p := 39) (v := 126) (by decide +kernel))
theorem dL_law_40 : decode cL_law 40 = .ok (.tableswitch 1541 0 37 #[168, 241, 266, 291, 316, 344, 369, 406, 455, 492, 529, 566, 591, 640, 701, 750, 799, 836, 861, 886, 899, 936, 973, 1022, 1071, 1120, 1157, 1194, 1255, 1280, 1329, 1378, 1415, 1440, 1453, 1490, 1503, 1516], 168) := by decide +kernel
theorem dL_law_208 : decode cL_law 208 = .ok (.aload_n 1, 1) := dc_43 (byA eNcL_law (p := 208) (v := 43) (by decide +kernel))
theorem dL_law_209 : decode cL_law 209 = .ok (.aload_n 0, 1) := dc_42 (byA eNcL_law (p := 209) (v := 42) (by decide +kernel))
theorem dL_law_210 : decode cL_law 210 = .ok (.iload 4, 2) := dc_21 (byA eNcL_law (p := 210) (v := 21) (by decide +kernel)) (byA eNcL_law (p := 211) (v := 4) (by decide +kernel))
theorem dL_law_212 : decode cL_law 212 = .ok (.iconst 1, 1) := dc_4 (byA eNcL_law (p := 212) (v := 4) (by decide +kernel))
theorem dL_law_213 : decode cL_law 213 = .ok (.iadd, 1) := dc_96 (byA eNcL_law (p := 213) (v := 96) (by decide +kernel))
theorem dL_law_214 : decode cL_law 214 = .ok (.iaload, 1) := dc_46 (byA eNcL_law (p := 214) (v := 46) (by decide +kernel))
theorem dL_law_215 : decode cL_law 215 = .ok (.aload_n 0, 1) := dc_42 (byA eNcL_law (p := 215) (v := 42) (by decide +kernel))
theorem dL_law_216 : decode cL_law 216 = .ok (.iload 4, 2) := dc_21 (byA eNcL_law (p := 216) (v := 21) (by decide +kernel)) (byA eNcL_law (p := 217) (v := 4) (by decide +kernel))
theorem dL_law_218 : decode cL_law 218 = .ok (.iconst 2, 1) := dc_5 (byA eNcL_law (p := 218) (v := 5) (by decide +kernel))
theorem dL_law_219 : decode cL_law 219 = .ok (.iadd, 1) := dc_96 (byA eNcL_law (p := 219) (v := 96) (by decide +kernel))
theorem dL_law_220 : decode cL_law 220 = .ok (.iaload, 1) := dc_46 (byA eNcL_law (p := 220) (v := 46) (by decide +kernel))
theorem dL_law_221 : decode cL_law 221 = .ok (.aload_n 0, 1) := dc_42 (byA eNcL_law (p := 221) (v := 42) (by decide +kernel))
theorem dL_law_222 : decode cL_law 222 = .ok (.iload 4, 2) := dc_21 (byA eNcL_law (p := 222) (v := 21) (by decide +kernel)) (byA eNcL_law (p := 223) (v := 4) (by decide +kernel))
theorem dL_law_224 : decode cL_law 224 = .ok (.iconst 3, 1) := dc_6 (byA eNcL_law (p := 224) (v := 6) (by decide +kernel))
theorem dL_law_225 : decode cL_law 225 = .ok (.iadd, 1) := dc_96 (byA eNcL_law (p := 225) (v := 96) (by decide +kernel))
theorem dL_law_226 : decode cL_law 226 = .ok (.iaload, 1) := dc_46 (byA eNcL_law (p := 226) (v := 46) (by decide +kernel))
theorem dL_law_227 : decode cL_law 227 = .ok (.aload_n 0, 1) := dc_42 (byA eNcL_law (p := 227) (v := 42) (by decide +kernel))
theorem dL_law_228 : decode cL_law 228 = .ok (.iload 4, 2) := dc_21 (byA eNcL_law (p := 228) (v := 21) (by decide +kernel)) (byA eNcL_law (p := 229) (v := 4) (by decide +kernel))
theorem dL_law_230 : decode cL_law 230 = .ok (.iconst 4, 1) := dc_7 (byA eNcL_law (p := 230) (v := 7) (by decide +kernel))
theorem dL_law_231 : decode cL_law 231 = .ok (.iadd, 1) := dc_96 (byA eNcL_law (p := 231) (v := 96) (by decide +kernel))
theorem dL_law_232 : decode cL_law 232 = .ok (.iaload, 1) := dc_46 (byA eNcL_law (p := 232) (v := 46) (by decide +kernel))
theorem dL_law_233 : decode cL_law 233 = .ok (.aload_n 0, 1) := dc_42 (byA eNcL_law (p := 233) (v := 42) (by decide +kernel))
theorem dL_law_234 : decode cL_law 234 = .ok (.iload 4, 2) := dc_21 (byA eNcL_law (p := 234) (v := 21) (by decide +kernel)) (byA eNcL_law (p := 235) (v := 4) (by decide +kernel))
theorem dL_law_236 : decode cL_law 236 = .ok (.iconst 5, 1) := dc_8 (byA eNcL_law (p := 236) (v := 8) (by decide +kernel))
theorem dL_law_237 : decode cL_law 237 = .ok (.iadd, 1) := dc_96 (byA eNcL_law (p := 237) (v := 96) (by decide +kernel))
theorem dL_law_238 : decode cL_law 238 = .ok (.iaload, 1) := dc_46 (byA eNcL_law (p := 238) (v := 46) (by decide +kernel))
theorem dL_law_239 : decode cL_law 239 = .ok (.invokevirtual 19, 3) := dc_182 (byA eNcL_law (p := 239) (v := 182) (by decide +kernel)) (byA eNcL_law (p := 240) (v := 0) (by decide +kernel)) (byA eNcL_law (p := 241) (v := 19) (by decide +kernel)) rfl
theorem dL_law_242 : decode cL_law 242 = .ok (.pop, 1) := dc_87 (byA eNcL_law (p := 242) (v := 87) (by decide +kernel))
theorem dL_law_243 : decode cL_law 243 = .ok (.aload_n 2, 1) := dc_44 (byA eNcL_law (p := 243) (v := 44) (by decide +kernel))
theorem dL_law_244 : decode cL_law 244 = .ok (.aload_n 0, 1) := dc_42 (byA eNcL_law (p := 244) (v := 42) (by decide +kernel))
theorem dL_law_245 : decode cL_law 245 = .ok (.iload 4, 2) := dc_21 (byA eNcL_law (p := 245) (v := 21) (by decide +kernel)) (byA eNcL_law (p := 246) (v := 4) (by decide +kernel))
theorem dL_law_247 : decode cL_law 247 = .ok (.iconst 1, 1) := dc_4 (byA eNcL_law (p := 247) (v := 4) (by decide +kernel))
theorem dL_law_248 : decode cL_law 248 = .ok (.iadd, 1) := dc_96 (byA eNcL_law (p := 248) (v := 96) (by decide +kernel))
theorem dL_law_249 : decode cL_law 249 = .ok (.iaload, 1) := dc_46 (byA eNcL_law (p := 249) (v := 46) (by decide +kernel))
theorem dL_law_250 : decode cL_law 250 = .ok (.aload_n 0, 1) := dc_42 (byA eNcL_law (p := 250) (v := 42) (by decide +kernel))
theorem dL_law_251 : decode cL_law 251 = .ok (.iload 4, 2) := dc_21 (byA eNcL_law (p := 251) (v := 21) (by decide +kernel)) (byA eNcL_law (p := 252) (v := 4) (by decide +kernel))
theorem dL_law_253 : decode cL_law 253 = .ok (.iconst 2, 1) := dc_5 (byA eNcL_law (p := 253) (v := 5) (by decide +kernel))
theorem dL_law_254 : decode cL_law 254 = .ok (.iadd, 1) := dc_96 (byA eNcL_law (p := 254) (v := 96) (by decide +kernel))
theorem dL_law_255 : decode cL_law 255 = .ok (.iaload, 1) := dc_46 (byA eNcL_law (p := 255) (v := 46) (by decide +kernel))
theorem dL_law_256 : decode cL_law 256 = .ok (.aload_n 0, 1) := dc_42 (byA eNcL_law (p := 256) (v := 42) (by decide +kernel))
theorem dL_law_257 : decode cL_law 257 = .ok (.iload 4, 2) := dc_21 (byA eNcL_law (p := 257) (v := 21) (by decide +kernel)) (byA eNcL_law (p := 258) (v := 4) (by decide +kernel))
theorem dL_law_259 : decode cL_law 259 = .ok (.iconst 3, 1) := dc_6 (byA eNcL_law (p := 259) (v := 6) (by decide +kernel))
theorem dL_law_260 : decode cL_law 260 = .ok (.iadd, 1) := dc_96 (byA eNcL_law (p := 260) (v := 96) (by decide +kernel))
theorem dL_law_261 : decode cL_law 261 = .ok (.iaload, 1) := dc_46 (byA eNcL_law (p := 261) (v := 46) (by decide +kernel))
theorem dL_law_262 : decode cL_law 262 = .ok (.aload_n 0, 1) := dc_42 (byA eNcL_law (p := 262) (v := 42) (by decide +kernel))
theorem dL_law_263 : decode cL_law 263 = .ok (.iload 4, 2) := dc_21 (byA eNcL_law (p := 263) (v := 21) (by decide +kernel)) (byA eNcL_law (p := 264) (v := 4) (by decide +kernel))
theorem dL_law_265 : decode cL_law 265 = .ok (.iconst 4, 1) := dc_7 (byA eNcL_law (p := 265) (v := 7) (by decide +kernel))
theorem dL_law_266 : decode cL_law 266 = .ok (.iadd, 1) := dc_96 (byA eNcL_law (p := 266) (v := 96) (by decide +kernel))
theorem dL_law_267 : decode cL_law 267 = .ok (.iaload, 1) := dc_46 (byA eNcL_law (p := 267) (v := 46) (by decide +kernel))
theorem dL_law_268 : decode cL_law 268 = .ok (.aload_n 0, 1) := dc_42 (byA eNcL_law (p := 268) (v := 42) (by decide +kernel))
theorem dL_law_269 : decode cL_law 269 = .ok (.iload 4, 2) := dc_21 (byA eNcL_law (p := 269) (v := 21) (by decide +kernel)) (byA eNcL_law (p := 270) (v := 4) (by decide +kernel))
theorem dL_law_271 : decode cL_law 271 = .ok (.iconst 5, 1) := dc_8 (byA eNcL_law (p := 271) (v := 8) (by decide +kernel))
theorem dL_law_272 : decode cL_law 272 = .ok (.iadd, 1) := dc_96 (byA eNcL_law (p := 272) (v := 96) (by decide +kernel))
theorem dL_law_273 : decode cL_law 273 = .ok (.iaload, 1) := dc_46 (byA eNcL_law (p := 273) (v := 46) (by decide +kernel))
theorem dL_law_274 : decode cL_law 274 = .ok (.invokevirtual 23, 3) := dc_182 (byA eNcL_law (p := 274) (v := 182) (by decide +kernel)) (byA eNcL_law (p := 275) (v := 0) (by decide +kernel)) (byA eNcL_law (p := 276) (v := 23) (by decide +kernel)) rfl
theorem dL_law_277 : decode cL_law 277 = .ok (.pop, 1) := dc_87 (byA eNcL_law (p := 277) (v := 87) (by decide +kernel))
theorem dL_law_278 : decode cL_law 278 = .ok (.goto 1303, 3) := dc_167 (byA eNcL_law (p := 278) (v := 167) (by decide +kernel)) (byA eNcL_law (p := 279) (v := 5) (by decide +kernel)) (byA eNcL_law (p := 280) (v := 23) (by decide +kernel)) (by decide +kernel)
theorem dL_law_281 : decode cL_law 281 = .ok (.aload_n 1, 1) := dc_43 (byA eNcL_law (p := 281) (v := 43) (by decide +kernel))
theorem dL_law_282 : decode cL_law 282 = .ok (.aload_n 0, 1) := dc_42 (byA eNcL_law (p := 282) (v := 42) (by decide +kernel))
theorem dL_law_283 : decode cL_law 283 = .ok (.iload 4, 2) := dc_21 (byA eNcL_law (p := 283) (v := 21) (by decide +kernel)) (byA eNcL_law (p := 284) (v := 4) (by decide +kernel))
theorem dL_law_285 : decode cL_law 285 = .ok (.iconst 1, 1) := dc_4 (byA eNcL_law (p := 285) (v := 4) (by decide +kernel))
theorem dL_law_286 : decode cL_law 286 = .ok (.iadd, 1) := dc_96 (byA eNcL_law (p := 286) (v := 96) (by decide +kernel))
theorem dL_law_287 : decode cL_law 287 = .ok (.iaload, 1) := dc_46 (byA eNcL_law (p := 287) (v := 46) (by decide +kernel))
theorem dL_law_288 : decode cL_law 288 = .ok (.invokevirtual 24, 3) := dc_182 (byA eNcL_law (p := 288) (v := 182) (by decide +kernel)) (byA eNcL_law (p := 289) (v := 0) (by decide +kernel)) (byA eNcL_law (p := 290) (v := 24) (by decide +kernel)) rfl
theorem dL_law_291 : decode cL_law 291 = .ok (.pop, 1) := dc_87 (byA eNcL_law (p := 291) (v := 87) (by decide +kernel))
theorem dL_law_292 : decode cL_law 292 = .ok (.aload_n 2, 1) := dc_44 (byA eNcL_law (p := 292) (v := 44) (by decide +kernel))
theorem dL_law_293 : decode cL_law 293 = .ok (.aload_n 0, 1) := dc_42 (byA eNcL_law (p := 293) (v := 42) (by decide +kernel))
theorem dL_law_294 : decode cL_law 294 = .ok (.iload 4, 2) := dc_21 (byA eNcL_law (p := 294) (v := 21) (by decide +kernel)) (byA eNcL_law (p := 295) (v := 4) (by decide +kernel))
theorem dL_law_296 : decode cL_law 296 = .ok (.iconst 1, 1) := dc_4 (byA eNcL_law (p := 296) (v := 4) (by decide +kernel))
theorem dL_law_297 : decode cL_law 297 = .ok (.iadd, 1) := dc_96 (byA eNcL_law (p := 297) (v := 96) (by decide +kernel))
theorem dL_law_298 : decode cL_law 298 = .ok (.iaload, 1) := dc_46 (byA eNcL_law (p := 298) (v := 46) (by decide +kernel))
theorem dL_law_299 : decode cL_law 299 = .ok (.invokevirtual 28, 3) := dc_182 (byA eNcL_law (p := 299) (v := 182) (by decide +kernel)) (byA eNcL_law (p := 300) (v := 0) (by decide +kernel)) (byA eNcL_law (p := 301) (v := 28) (by decide +kernel)) rfl
theorem dL_law_302 : decode cL_law 302 = .ok (.pop, 1) := dc_87 (byA eNcL_law (p := 302) (v := 87) (by decide +kernel))
theorem dL_law_303 : decode cL_law 303 = .ok (.goto 1278, 3) := dc_167 (byA eNcL_law (p := 303) (v := 167) (by decide +kernel)) (byA eNcL_law (p := 304) (v := 4) (by decide +kernel)) (byA eNcL_law (p := 305) (v := 254) (by decide +kernel)) (by decide +kernel)
theorem dL_law_306 : decode cL_law 306 = .ok (.aload_n 1, 1) := dc_43 (byA eNcL_law (p := 306) (v := 43) (by decide +kernel))
theorem dL_law_307 : decode cL_law 307 = .ok (.aload_n 0, 1) := dc_42 (byA eNcL_law (p := 307) (v := 42) (by decide +kernel))
theorem dL_law_308 : decode cL_law 308 = .ok (.iload 4, 2) := dc_21 (byA eNcL_law (p := 308) (v := 21) (by decide +kernel)) (byA eNcL_law (p := 309) (v := 4) (by decide +kernel))
theorem dL_law_310 : decode cL_law 310 = .ok (.iconst 1, 1) := dc_4 (byA eNcL_law (p := 310) (v := 4) (by decide +kernel))
theorem dL_law_311 : decode cL_law 311 = .ok (.iadd, 1) := dc_96 (byA eNcL_law (p := 311) (v := 96) (by decide +kernel))
theorem dL_law_312 : decode cL_law 312 = .ok (.iaload, 1) := dc_46 (byA eNcL_law (p := 312) (v := 46) (by decide +kernel))
theorem dL_law_313 : decode cL_law 313 = .ok (.invokevirtual 29, 3) := dc_182 (byA eNcL_law (p := 313) (v := 182) (by decide +kernel)) (byA eNcL_law (p := 314) (v := 0) (by decide +kernel)) (byA eNcL_law (p := 315) (v := 29) (by decide +kernel)) rfl
theorem dL_law_316 : decode cL_law 316 = .ok (.pop, 1) := dc_87 (byA eNcL_law (p := 316) (v := 87) (by decide +kernel))
theorem dL_law_317 : decode cL_law 317 = .ok (.aload_n 2, 1) := dc_44 (byA eNcL_law (p := 317) (v := 44) (by decide +kernel))
theorem dL_law_318 : decode cL_law 318 = .ok (.aload_n 0, 1) := dc_42 (byA eNcL_law (p := 318) (v := 42) (by decide +kernel))
theorem dL_law_319 : decode cL_law 319 = .ok (.iload 4, 2) := dc_21 (byA eNcL_law (p := 319) (v := 21) (by decide +kernel)) (byA eNcL_law (p := 320) (v := 4) (by decide +kernel))
theorem dL_law_321 : decode cL_law 321 = .ok (.iconst 1, 1) := dc_4 (byA eNcL_law (p := 321) (v := 4) (by decide +kernel))
theorem dL_law_322 : decode cL_law 322 = .ok (.iadd, 1) := dc_96 (byA eNcL_law (p := 322) (v := 96) (by decide +kernel))
theorem dL_law_323 : decode cL_law 323 = .ok (.iaload, 1) := dc_46 (byA eNcL_law (p := 323) (v := 46) (by decide +kernel))
theorem dL_law_324 : decode cL_law 324 = .ok (.invokevirtual 32, 3) := dc_182 (byA eNcL_law (p := 324) (v := 182) (by decide +kernel)) (byA eNcL_law (p := 325) (v := 0) (by decide +kernel)) (byA eNcL_law (p := 326) (v := 32) (by decide +kernel)) rfl
theorem dL_law_327 : decode cL_law 327 = .ok (.pop, 1) := dc_87 (byA eNcL_law (p := 327) (v := 87) (by decide +kernel))
theorem dL_law_328 : decode cL_law 328 = .ok (.goto 1253, 3) := dc_167 (byA eNcL_law (p := 328) (v := 167) (by decide +kernel)) (byA eNcL_law (p := 329) (v := 4) (by decide +kernel)) (byA eNcL_law (p := 330) (v := 229) (by decide +kernel)) (by decide +kernel)
theorem dL_law_331 : decode cL_law 331 = .ok (.aload_n 1, 1) := dc_43 (byA eNcL_law (p := 331) (v := 43) (by decide +kernel))
theorem dL_law_332 : decode cL_law 332 = .ok (.aload_n 0, 1) := dc_42 (byA eNcL_law (p := 332) (v := 42) (by decide +kernel))
theorem dL_law_333 : decode cL_law 333 = .ok (.iload 4, 2) := dc_21 (byA eNcL_law (p := 333) (v := 21) (by decide +kernel)) (byA eNcL_law (p := 334) (v := 4) (by decide +kernel))
theorem dL_law_335 : decode cL_law 335 = .ok (.iconst 1, 1) := dc_4 (byA eNcL_law (p := 335) (v := 4) (by decide +kernel))
theorem dL_law_336 : decode cL_law 336 = .ok (.iadd, 1) := dc_96 (byA eNcL_law (p := 336) (v := 96) (by decide +kernel))
theorem dL_law_337 : decode cL_law 337 = .ok (.iaload, 1) := dc_46 (byA eNcL_law (p := 337) (v := 46) (by decide +kernel))
theorem dL_law_338 : decode cL_law 338 = .ok (.invokevirtual 33, 3) := dc_182 (byA eNcL_law (p := 338) (v := 182) (by decide +kernel)) (byA eNcL_law (p := 339) (v := 0) (by decide +kernel)) (byA eNcL_law (p := 340) (v := 33) (by decide +kernel)) rfl
theorem dL_law_341 : decode cL_law 341 = .ok (.pop, 1) := dc_87 (byA eNcL_law (p := 341) (v := 87) (by decide +kernel))
theorem dL_law_342 : decode cL_law 342 = .ok (.aload_n 2, 1) := dc_44 (byA eNcL_law (p := 342) (v := 44) (by decide +kernel))
theorem dL_law_343 : decode cL_law 343 = .ok (.aload_n 0, 1) := dc_42 (byA eNcL_law (p := 343) (v := 42) (by decide +kernel))
theorem dL_law_344 : decode cL_law 344 = .ok (.iload 4, 2) := dc_21 (byA eNcL_law (p := 344) (v := 21) (by decide +kernel)) (byA eNcL_law (p := 345) (v := 4) (by decide +kernel))
theorem dL_law_346 : decode cL_law 346 = .ok (.iconst 1, 1) := dc_4 (byA eNcL_law (p := 346) (v := 4) (by decide +kernel))
theorem dL_law_347 : decode cL_law 347 = .ok (.iadd, 1) := dc_96 (byA eNcL_law (p := 347) (v := 96) (by decide +kernel))
theorem dL_law_348 : decode cL_law 348 = .ok (.iaload, 1) := dc_46 (byA eNcL_law (p := 348) (v := 46) (by decide +kernel))
theorem dL_law_349 : decode cL_law 349 = .ok (.invokevirtual 36, 3) := dc_182 (byA eNcL_law (p := 349) (v := 182) (by decide +kernel)) (byA eNcL_law (p := 350) (v := 0) (by decide +kernel)) (byA eNcL_law (p := 351) (v := 36) (by decide +kernel)) rfl
theorem dL_law_352 : decode cL_law 352 = .ok (.pop, 1) := dc_87 (byA eNcL_law (p := 352) (v := 87) (by decide +kernel))
theorem dL_law_353 : decode cL_law 353 = .ok (.goto 1228, 3) := dc_167 (byA eNcL_law (p := 353) (v := 167) (by decide +kernel)) (byA eNcL_law (p := 354) (v := 4) (by decide +kernel)) (byA eNcL_law (p := 355) (v := 204) (by decide +kernel)) (by decide +kernel)
theorem dL_law_356 : decode cL_law 356 = .ok (.aload_n 1, 1) := dc_43 (byA eNcL_law (p := 356) (v := 43) (by decide +kernel))
theorem dL_law_357 : decode cL_law 357 = .ok (.aload_n 0, 1) := dc_42 (byA eNcL_law (p := 357) (v := 42) (by decide +kernel))
theorem dL_law_358 : decode cL_law 358 = .ok (.iload 4, 2) := dc_21 (byA eNcL_law (p := 358) (v := 21) (by decide +kernel)) (byA eNcL_law (p := 359) (v := 4) (by decide +kernel))
theorem dL_law_360 : decode cL_law 360 = .ok (.iconst 1, 1) := dc_4 (byA eNcL_law (p := 360) (v := 4) (by decide +kernel))
theorem dL_law_361 : decode cL_law 361 = .ok (.iadd, 1) := dc_96 (byA eNcL_law (p := 361) (v := 96) (by decide +kernel))
theorem dL_law_362 : decode cL_law 362 = .ok (.iaload, 1) := dc_46 (byA eNcL_law (p := 362) (v := 46) (by decide +kernel))
theorem dL_law_363 : decode cL_law 363 = .ok (.aload_n 3, 1) := dc_45 (byA eNcL_law (p := 363) (v := 45) (by decide +kernel))
theorem dL_law_364 : decode cL_law 364 = .ok (.invokestatic 37, 3) := dc_184 (byA eNcL_law (p := 364) (v := 184) (by decide +kernel)) (byA eNcL_law (p := 365) (v := 0) (by decide +kernel)) (byA eNcL_law (p := 366) (v := 37) (by decide +kernel)) rfl
theorem dL_law_367 : decode cL_law 367 = .ok (.istore 5, 2) := dc_54 (byA eNcL_law (p := 367) (v := 54) (by decide +kernel)) (byA eNcL_law (p := 368) (v := 5) (by decide +kernel))
theorem dL_law_369 : decode cL_law 369 = .ok (.aload_n 2, 1) := dc_44 (byA eNcL_law (p := 369) (v := 44) (by decide +kernel))
theorem dL_law_370 : decode cL_law 370 = .ok (.aload_n 0, 1) := dc_42 (byA eNcL_law (p := 370) (v := 42) (by decide +kernel))
theorem dL_law_371 : decode cL_law 371 = .ok (.iload 4, 2) := dc_21 (byA eNcL_law (p := 371) (v := 21) (by decide +kernel)) (byA eNcL_law (p := 372) (v := 4) (by decide +kernel))
theorem dL_law_373 : decode cL_law 373 = .ok (.iconst 1, 1) := dc_4 (byA eNcL_law (p := 373) (v := 4) (by decide +kernel))
theorem dL_law_374 : decode cL_law 374 = .ok (.iadd, 1) := dc_96 (byA eNcL_law (p := 374) (v := 96) (by decide +kernel))
theorem dL_law_375 : decode cL_law 375 = .ok (.iaload, 1) := dc_46 (byA eNcL_law (p := 375) (v := 46) (by decide +kernel))
theorem dL_law_376 : decode cL_law 376 = .ok (.invokevirtual 42, 3) := dc_182 (byA eNcL_law (p := 376) (v := 182) (by decide +kernel)) (byA eNcL_law (p := 377) (v := 0) (by decide +kernel)) (byA eNcL_law (p := 378) (v := 42) (by decide +kernel)) rfl
theorem dL_law_379 : decode cL_law 379 = .ok (.istore 6, 2) := dc_54 (byA eNcL_law (p := 379) (v := 54) (by decide +kernel)) (byA eNcL_law (p := 380) (v := 6) (by decide +kernel))
theorem dL_law_381 : decode cL_law 381 = .ok (.goto 1200, 3) := dc_167 (byA eNcL_law (p := 381) (v := 167) (by decide +kernel)) (byA eNcL_law (p := 382) (v := 4) (by decide +kernel)) (byA eNcL_law (p := 383) (v := 176) (by decide +kernel)) (by decide +kernel)
theorem dL_law_384 : decode cL_law 384 = .ok (.aload_n 1, 1) := dc_43 (byA eNcL_law (p := 384) (v := 43) (by decide +kernel))
theorem dL_law_385 : decode cL_law 385 = .ok (.aload_n 0, 1) := dc_42 (byA eNcL_law (p := 385) (v := 42) (by decide +kernel))
theorem dL_law_386 : decode cL_law 386 = .ok (.iload 4, 2) := dc_21 (byA eNcL_law (p := 386) (v := 21) (by decide +kernel)) (byA eNcL_law (p := 387) (v := 4) (by decide +kernel))
theorem dL_law_388 : decode cL_law 388 = .ok (.iconst 1, 1) := dc_4 (byA eNcL_law (p := 388) (v := 4) (by decide +kernel))
theorem dL_law_389 : decode cL_law 389 = .ok (.iadd, 1) := dc_96 (byA eNcL_law (p := 389) (v := 96) (by decide +kernel))
theorem dL_law_390 : decode cL_law 390 = .ok (.iaload, 1) := dc_46 (byA eNcL_law (p := 390) (v := 46) (by decide +kernel))
theorem dL_law_391 : decode cL_law 391 = .ok (.invokevirtual 43, 3) := dc_182 (byA eNcL_law (p := 391) (v := 182) (by decide +kernel)) (byA eNcL_law (p := 392) (v := 0) (by decide +kernel)) (byA eNcL_law (p := 393) (v := 43) (by decide +kernel)) rfl
theorem dL_law_394 : decode cL_law 394 = .ok (.pop, 1) := dc_87 (byA eNcL_law (p := 394) (v := 87) (by decide +kernel))
theorem dL_law_395 : decode cL_law 395 = .ok (.aload_n 2, 1) := dc_44 (byA eNcL_law (p := 395) (v := 44) (by decide +kernel))
theorem dL_law_396 : decode cL_law 396 = .ok (.aload_n 0, 1) := dc_42 (byA eNcL_law (p := 396) (v := 42) (by decide +kernel))
theorem dL_law_397 : decode cL_law 397 = .ok (.iload 4, 2) := dc_21 (byA eNcL_law (p := 397) (v := 21) (by decide +kernel)) (byA eNcL_law (p := 398) (v := 4) (by decide +kernel))
theorem dL_law_399 : decode cL_law 399 = .ok (.iconst 1, 1) := dc_4 (byA eNcL_law (p := 399) (v := 4) (by decide +kernel))
theorem dL_law_400 : decode cL_law 400 = .ok (.iadd, 1) := dc_96 (byA eNcL_law (p := 400) (v := 96) (by decide +kernel))
theorem dL_law_401 : decode cL_law 401 = .ok (.iaload, 1) := dc_46 (byA eNcL_law (p := 401) (v := 46) (by decide +kernel))
theorem dL_law_402 : decode cL_law 402 = .ok (.invokevirtual 46, 3) := dc_182 (byA eNcL_law (p := 402) (v := 182) (by decide +kernel)) (byA eNcL_law (p := 403) (v := 0) (by decide +kernel)) (byA eNcL_law (p := 404) (v := 46) (by decide +kernel)) rfl
theorem dL_law_405 : decode cL_law 405 = .ok (.pop, 1) := dc_87 (byA eNcL_law (p := 405) (v := 87) (by decide +kernel))
theorem dL_law_406 : decode cL_law 406 = .ok (.goto 1175, 3) := dc_167 (byA eNcL_law (p := 406) (v := 167) (by decide +kernel)) (byA eNcL_law (p := 407) (v := 4) (by decide +kernel)) (byA eNcL_law (p := 408) (v := 151) (by decide +kernel)) (by decide +kernel)
theorem dL_law_409 : decode cL_law 409 = .ok (.aload_n 1, 1) := dc_43 (byA eNcL_law (p := 409) (v := 43) (by decide +kernel))
theorem dL_law_410 : decode cL_law 410 = .ok (.aload_n 0, 1) := dc_42 (byA eNcL_law (p := 410) (v := 42) (by decide +kernel))
theorem dL_law_411 : decode cL_law 411 = .ok (.iload 4, 2) := dc_21 (byA eNcL_law (p := 411) (v := 21) (by decide +kernel)) (byA eNcL_law (p := 412) (v := 4) (by decide +kernel))
theorem dL_law_413 : decode cL_law 413 = .ok (.iconst 1, 1) := dc_4 (byA eNcL_law (p := 413) (v := 4) (by decide +kernel))
theorem dL_law_414 : decode cL_law 414 = .ok (.iadd, 1) := dc_96 (byA eNcL_law (p := 414) (v := 96) (by decide +kernel))
theorem dL_law_415 : decode cL_law 415 = .ok (.iaload, 1) := dc_46 (byA eNcL_law (p := 415) (v := 46) (by decide +kernel))
theorem dL_law_416 : decode cL_law 416 = .ok (.aload_n 0, 1) := dc_42 (byA eNcL_law (p := 416) (v := 42) (by decide +kernel))
theorem dL_law_417 : decode cL_law 417 = .ok (.iload 4, 2) := dc_21 (byA eNcL_law (p := 417) (v := 21) (by decide +kernel)) (byA eNcL_law (p := 418) (v := 4) (by decide +kernel))
theorem dL_law_419 : decode cL_law 419 = .ok (.iconst 2, 1) := dc_5 (byA eNcL_law (p := 419) (v := 5) (by decide +kernel))
theorem dL_law_420 : decode cL_law 420 = .ok (.iadd, 1) := dc_96 (byA eNcL_law (p := 420) (v := 96) (by decide +kernel))
theorem dL_law_421 : decode cL_law 421 = .ok (.iaload, 1) := dc_46 (byA eNcL_law (p := 421) (v := 46) (by decide +kernel))
theorem dL_law_422 : decode cL_law 422 = .ok (.invokevirtual 47, 3) := dc_182 (byA eNcL_law (p := 422) (v := 182) (by decide +kernel)) (byA eNcL_law (p := 423) (v := 0) (by decide +kernel)) (byA eNcL_law (p := 424) (v := 47) (by decide +kernel)) rfl
theorem dL_law_425 : decode cL_law 425 = .ok (.pop, 1) := dc_87 (byA eNcL_law (p := 425) (v := 87) (by decide +kernel))
theorem dL_law_426 : decode cL_law 426 = .ok (.aload_n 2, 1) := dc_44 (byA eNcL_law (p := 426) (v := 44) (by decide +kernel))
theorem dL_law_427 : decode cL_law 427 = .ok (.aload_n 0, 1) := dc_42 (byA eNcL_law (p := 427) (v := 42) (by decide +kernel))
theorem dL_law_428 : decode cL_law 428 = .ok (.iload 4, 2) := dc_21 (byA eNcL_law (p := 428) (v := 21) (by decide +kernel)) (byA eNcL_law (p := 429) (v := 4) (by decide +kernel))
theorem dL_law_430 : decode cL_law 430 = .ok (.iconst 1, 1) := dc_4 (byA eNcL_law (p := 430) (v := 4) (by decide +kernel))
theorem dL_law_431 : decode cL_law 431 = .ok (.iadd, 1) := dc_96 (byA eNcL_law (p := 431) (v := 96) (by decide +kernel))
theorem dL_law_432 : decode cL_law 432 = .ok (.iaload, 1) := dc_46 (byA eNcL_law (p := 432) (v := 46) (by decide +kernel))
theorem dL_law_433 : decode cL_law 433 = .ok (.aload_n 0, 1) := dc_42 (byA eNcL_law (p := 433) (v := 42) (by decide +kernel))
theorem dL_law_434 : decode cL_law 434 = .ok (.iload 4, 2) := dc_21 (byA eNcL_law (p := 434) (v := 21) (by decide +kernel)) (byA eNcL_law (p := 435) (v := 4) (by decide +kernel))
theorem dL_law_436 : decode cL_law 436 = .ok (.iconst 2, 1) := dc_5 (byA eNcL_law (p := 436) (v := 5) (by decide +kernel))
theorem dL_law_437 : decode cL_law 437 = .ok (.iadd, 1) := dc_96 (byA eNcL_law (p := 437) (v := 96) (by decide +kernel))
theorem dL_law_438 : decode cL_law 438 = .ok (.iaload, 1) := dc_46 (byA eNcL_law (p := 438) (v := 46) (by decide +kernel))
theorem dL_law_439 : decode cL_law 439 = .ok (.invokevirtual 51, 3) := dc_182 (byA eNcL_law (p := 439) (v := 182) (by decide +kernel)) (byA eNcL_law (p := 440) (v := 0) (by decide +kernel)) (byA eNcL_law (p := 441) (v := 51) (by decide +kernel)) rfl
theorem dL_law_442 : decode cL_law 442 = .ok (.pop, 1) := dc_87 (byA eNcL_law (p := 442) (v := 87) (by decide +kernel))
theorem dL_law_443 : decode cL_law 443 = .ok (.goto 1138, 3) := dc_167 (byA eNcL_law (p := 443) (v := 167) (by decide +kernel)) (byA eNcL_law (p := 444) (v := 4) (by decide +kernel)) (byA eNcL_law (p := 445) (v := 114) (by decide +kernel)) (by decide +kernel)
theorem dL_law_446 : decode cL_law 446 = .ok (.aload_n 1, 1) := dc_43 (byA eNcL_law (p := 446) (v := 43) (by decide +kernel))
theorem dL_law_447 : decode cL_law 447 = .ok (.aload_n 0, 1) := dc_42 (byA eNcL_law (p := 447) (v := 42) (by decide +kernel))
theorem dL_law_448 : decode cL_law 448 = .ok (.iload 4, 2) := dc_21 (byA eNcL_law (p := 448) (v := 21) (by decide +kernel)) (byA eNcL_law (p := 449) (v := 4) (by decide +kernel))
theorem dL_law_450 : decode cL_law 450 = .ok (.iconst 1, 1) := dc_4 (byA eNcL_law (p := 450) (v := 4) (by decide +kernel))
theorem dL_law_451 : decode cL_law 451 = .ok (.iadd, 1) := dc_96 (byA eNcL_law (p := 451) (v := 96) (by decide +kernel))
theorem dL_law_452 : decode cL_law 452 = .ok (.iaload, 1) := dc_46 (byA eNcL_law (p := 452) (v := 46) (by decide +kernel))
theorem dL_law_453 : decode cL_law 453 = .ok (.aload_n 0, 1) := dc_42 (byA eNcL_law (p := 453) (v := 42) (by decide +kernel))
theorem dL_law_454 : decode cL_law 454 = .ok (.iload 4, 2) := dc_21 (byA eNcL_law (p := 454) (v := 21) (by decide +kernel)) (byA eNcL_law (p := 455) (v := 4) (by decide +kernel))
theorem dL_law_456 : decode cL_law 456 = .ok (.iconst 2, 1) := dc_5 (byA eNcL_law (p := 456) (v := 5) (by decide +kernel))
theorem dL_law_457 : decode cL_law 457 = .ok (.iadd, 1) := dc_96 (byA eNcL_law (p := 457) (v := 96) (by decide +kernel))
theorem dL_law_458 : decode cL_law 458 = .ok (.iaload, 1) := dc_46 (byA eNcL_law (p := 458) (v := 46) (by decide +kernel))
theorem dL_law_459 : decode cL_law 459 = .ok (.aload_n 0, 1) := dc_42 (byA eNcL_law (p := 459) (v := 42) (by decide +kernel))
theorem dL_law_460 : decode cL_law 460 = .ok (.iload 4, 2) := dc_21 (byA eNcL_law (p := 460) (v := 21) (by decide +kernel)) (byA eNcL_law (p := 461) (v := 4) (by decide +kernel))
theorem dL_law_462 : decode cL_law 462 = .ok (.iconst 3, 1) := dc_6 (byA eNcL_law (p := 462) (v := 6) (by decide +kernel))
theorem dL_law_463 : decode cL_law 463 = .ok (.iadd, 1) := dc_96 (byA eNcL_law (p := 463) (v := 96) (by decide +kernel))
theorem dL_law_464 : decode cL_law 464 = .ok (.iaload, 1) := dc_46 (byA eNcL_law (p := 464) (v := 46) (by decide +kernel))
theorem dL_law_465 : decode cL_law 465 = .ok (.invokevirtual 52, 3) := dc_182 (byA eNcL_law (p := 465) (v := 182) (by decide +kernel)) (byA eNcL_law (p := 466) (v := 0) (by decide +kernel)) (byA eNcL_law (p := 467) (v := 52) (by decide +kernel)) rfl
theorem dL_law_468 : decode cL_law 468 = .ok (.pop, 1) := dc_87 (byA eNcL_law (p := 468) (v := 87) (by decide +kernel))
theorem dL_law_469 : decode cL_law 469 = .ok (.aload_n 2, 1) := dc_44 (byA eNcL_law (p := 469) (v := 44) (by decide +kernel))
theorem dL_law_470 : decode cL_law 470 = .ok (.aload_n 0, 1) := dc_42 (byA eNcL_law (p := 470) (v := 42) (by decide +kernel))
theorem dL_law_471 : decode cL_law 471 = .ok (.iload 4, 2) := dc_21 (byA eNcL_law (p := 471) (v := 21) (by decide +kernel)) (byA eNcL_law (p := 472) (v := 4) (by decide +kernel))
theorem dL_law_473 : decode cL_law 473 = .ok (.iconst 1, 1) := dc_4 (byA eNcL_law (p := 473) (v := 4) (by decide +kernel))
theorem dL_law_474 : decode cL_law 474 = .ok (.iadd, 1) := dc_96 (byA eNcL_law (p := 474) (v := 96) (by decide +kernel))
theorem dL_law_475 : decode cL_law 475 = .ok (.iaload, 1) := dc_46 (byA eNcL_law (p := 475) (v := 46) (by decide +kernel))
theorem dL_law_476 : decode cL_law 476 = .ok (.aload_n 0, 1) := dc_42 (byA eNcL_law (p := 476) (v := 42) (by decide +kernel))
theorem dL_law_477 : decode cL_law 477 = .ok (.iload 4, 2) := dc_21 (byA eNcL_law (p := 477) (v := 21) (by decide +kernel)) (byA eNcL_law (p := 478) (v := 4) (by decide +kernel))
theorem dL_law_479 : decode cL_law 479 = .ok (.iconst 2, 1) := dc_5 (byA eNcL_law (p := 479) (v := 5) (by decide +kernel))
theorem dL_law_480 : decode cL_law 480 = .ok (.iadd, 1) := dc_96 (byA eNcL_law (p := 480) (v := 96) (by decide +kernel))
theorem dL_law_481 : decode cL_law 481 = .ok (.iaload, 1) := dc_46 (byA eNcL_law (p := 481) (v := 46) (by decide +kernel))
theorem dL_law_482 : decode cL_law 482 = .ok (.aload_n 0, 1) := dc_42 (byA eNcL_law (p := 482) (v := 42) (by decide +kernel))
theorem dL_law_483 : decode cL_law 483 = .ok (.iload 4, 2) := dc_21 (byA eNcL_law (p := 483) (v := 21) (by decide +kernel)) (byA eNcL_law (p := 484) (v := 4) (by decide +kernel))
theorem dL_law_485 : decode cL_law 485 = .ok (.iconst 3, 1) := dc_6 (byA eNcL_law (p := 485) (v := 6) (by decide +kernel))
theorem dL_law_486 : decode cL_law 486 = .ok (.iadd, 1) := dc_96 (byA eNcL_law (p := 486) (v := 96) (by decide +kernel))
theorem dL_law_487 : decode cL_law 487 = .ok (.iaload, 1) := dc_46 (byA eNcL_law (p := 487) (v := 46) (by decide +kernel))
theorem dL_law_488 : decode cL_law 488 = .ok (.invokevirtual 56, 3) := dc_182 (byA eNcL_law (p := 488) (v := 182) (by decide +kernel)) (byA eNcL_law (p := 489) (v := 0) (by decide +kernel)) (byA eNcL_law (p := 490) (v := 56) (by decide +kernel)) rfl
theorem dL_law_491 : decode cL_law 491 = .ok (.pop, 1) := dc_87 (byA eNcL_law (p := 491) (v := 87) (by decide +kernel))
theorem dL_law_492 : decode cL_law 492 = .ok (.goto 1089, 3) := dc_167 (byA eNcL_law (p := 492) (v := 167) (by decide +kernel)) (byA eNcL_law (p := 493) (v := 4) (by decide +kernel)) (byA eNcL_law (p := 494) (v := 65) (by decide +kernel)) (by decide +kernel)
theorem dL_law_495 : decode cL_law 495 = .ok (.aload_n 1, 1) := dc_43 (byA eNcL_law (p := 495) (v := 43) (by decide +kernel))
theorem dL_law_496 : decode cL_law 496 = .ok (.aload_n 0, 1) := dc_42 (byA eNcL_law (p := 496) (v := 42) (by decide +kernel))
theorem dL_law_497 : decode cL_law 497 = .ok (.iload 4, 2) := dc_21 (byA eNcL_law (p := 497) (v := 21) (by decide +kernel)) (byA eNcL_law (p := 498) (v := 4) (by decide +kernel))
theorem dL_law_499 : decode cL_law 499 = .ok (.iconst 1, 1) := dc_4 (byA eNcL_law (p := 499) (v := 4) (by decide +kernel))
theorem dL_law_500 : decode cL_law 500 = .ok (.iadd, 1) := dc_96 (byA eNcL_law (p := 500) (v := 96) (by decide +kernel))
theorem dL_law_501 : decode cL_law 501 = .ok (.iaload, 1) := dc_46 (byA eNcL_law (p := 501) (v := 46) (by decide +kernel))
theorem dL_law_502 : decode cL_law 502 = .ok (.aload_n 0, 1) := dc_42 (byA eNcL_law (p := 502) (v := 42) (by decide +kernel))
theorem dL_law_503 : decode cL_law 503 = .ok (.iload 4, 2) := dc_21 (byA eNcL_law (p := 503) (v := 21) (by decide +kernel)) (byA eNcL_law (p := 504) (v := 4) (by decide +kernel))
theorem dL_law_505 : decode cL_law 505 = .ok (.iconst 2, 1) := dc_5 (byA eNcL_law (p := 505) (v := 5) (by decide +kernel))
theorem dL_law_506 : decode cL_law 506 = .ok (.iadd, 1) := dc_96 (byA eNcL_law (p := 506) (v := 96) (by decide +kernel))
theorem dL_law_507 : decode cL_law 507 = .ok (.iaload, 1) := dc_46 (byA eNcL_law (p := 507) (v := 46) (by decide +kernel))
theorem dL_law_508 : decode cL_law 508 = .ok (.invokevirtual 57, 3) := dc_182 (byA eNcL_law (p := 508) (v := 182) (by decide +kernel)) (byA eNcL_law (p := 509) (v := 0) (by decide +kernel)) (byA eNcL_law (p := 510) (v := 57) (by decide +kernel)) rfl
theorem dL_law_511 : decode cL_law 511 = .ok (.pop, 1) := dc_87 (byA eNcL_law (p := 511) (v := 87) (by decide +kernel))
theorem dL_law_512 : decode cL_law 512 = .ok (.aload_n 2, 1) := dc_44 (byA eNcL_law (p := 512) (v := 44) (by decide +kernel))
theorem dL_law_513 : decode cL_law 513 = .ok (.aload_n 0, 1) := dc_42 (byA eNcL_law (p := 513) (v := 42) (by decide +kernel))
theorem dL_law_514 : decode cL_law 514 = .ok (.iload 4, 2) := dc_21 (byA eNcL_law (p := 514) (v := 21) (by decide +kernel)) (byA eNcL_law (p := 515) (v := 4) (by decide +kernel))
theorem dL_law_516 : decode cL_law 516 = .ok (.iconst 1, 1) := dc_4 (byA eNcL_law (p := 516) (v := 4) (by decide +kernel))
theorem dL_law_517 : decode cL_law 517 = .ok (.iadd, 1) := dc_96 (byA eNcL_law (p := 517) (v := 96) (by decide +kernel))
theorem dL_law_518 : decode cL_law 518 = .ok (.iaload, 1) := dc_46 (byA eNcL_law (p := 518) (v := 46) (by decide +kernel))
theorem dL_law_519 : decode cL_law 519 = .ok (.aload_n 0, 1) := dc_42 (byA eNcL_law (p := 519) (v := 42) (by decide +kernel))
theorem dL_law_520 : decode cL_law 520 = .ok (.iload 4, 2) := dc_21 (byA eNcL_law (p := 520) (v := 21) (by decide +kernel)) (byA eNcL_law (p := 521) (v := 4) (by decide +kernel))
theorem dL_law_522 : decode cL_law 522 = .ok (.iconst 2, 1) := dc_5 (byA eNcL_law (p := 522) (v := 5) (by decide +kernel))
theorem dL_law_523 : decode cL_law 523 = .ok (.iadd, 1) := dc_96 (byA eNcL_law (p := 523) (v := 96) (by decide +kernel))
theorem dL_law_524 : decode cL_law 524 = .ok (.iaload, 1) := dc_46 (byA eNcL_law (p := 524) (v := 46) (by decide +kernel))
theorem dL_law_525 : decode cL_law 525 = .ok (.invokevirtual 61, 3) := dc_182 (byA eNcL_law (p := 525) (v := 182) (by decide +kernel)) (byA eNcL_law (p := 526) (v := 0) (by decide +kernel)) (byA eNcL_law (p := 527) (v := 61) (by decide +kernel)) rfl
theorem dL_law_528 : decode cL_law 528 = .ok (.pop, 1) := dc_87 (byA eNcL_law (p := 528) (v := 87) (by decide +kernel))
theorem dL_law_529 : decode cL_law 529 = .ok (.goto 1052, 3) := dc_167 (byA eNcL_law (p := 529) (v := 167) (by decide +kernel)) (byA eNcL_law (p := 530) (v := 4) (by decide +kernel)) (byA eNcL_law (p := 531) (v := 28) (by decide +kernel)) (by decide +kernel)
theorem dL_law_532 : decode cL_law 532 = .ok (.aload_n 1, 1) := dc_43 (byA eNcL_law (p := 532) (v := 43) (by decide +kernel))
theorem dL_law_533 : decode cL_law 533 = .ok (.aload_n 0, 1) := dc_42 (byA eNcL_law (p := 533) (v := 42) (by decide +kernel))
theorem dL_law_534 : decode cL_law 534 = .ok (.iload 4, 2) := dc_21 (byA eNcL_law (p := 534) (v := 21) (by decide +kernel)) (byA eNcL_law (p := 535) (v := 4) (by decide +kernel))
theorem dL_law_536 : decode cL_law 536 = .ok (.iconst 1, 1) := dc_4 (byA eNcL_law (p := 536) (v := 4) (by decide +kernel))
theorem dL_law_537 : decode cL_law 537 = .ok (.iadd, 1) := dc_96 (byA eNcL_law (p := 537) (v := 96) (by decide +kernel))
theorem dL_law_538 : decode cL_law 538 = .ok (.iaload, 1) := dc_46 (byA eNcL_law (p := 538) (v := 46) (by decide +kernel))
theorem dL_law_539 : decode cL_law 539 = .ok (.aload_n 0, 1) := dc_42 (byA eNcL_law (p := 539) (v := 42) (by decide +kernel))
theorem dL_law_540 : decode cL_law 540 = .ok (.iload 4, 2) := dc_21 (byA eNcL_law (p := 540) (v := 21) (by decide +kernel)) (byA eNcL_law (p := 541) (v := 4) (by decide +kernel))
theorem dL_law_542 : decode cL_law 542 = .ok (.iconst 2, 1) := dc_5 (byA eNcL_law (p := 542) (v := 5) (by decide +kernel))
theorem dL_law_543 : decode cL_law 543 = .ok (.iadd, 1) := dc_96 (byA eNcL_law (p := 543) (v := 96) (by decide +kernel))
theorem dL_law_544 : decode cL_law 544 = .ok (.iaload, 1) := dc_46 (byA eNcL_law (p := 544) (v := 46) (by decide +kernel))
theorem dL_law_545 : decode cL_law 545 = .ok (.invokevirtual 62, 3) := dc_182 (byA eNcL_law (p := 545) (v := 182) (by decide +kernel)) (byA eNcL_law (p := 546) (v := 0) (by decide +kernel)) (byA eNcL_law (p := 547) (v := 62) (by decide +kernel)) rfl
theorem dL_law_548 : decode cL_law 548 = .ok (.pop, 1) := dc_87 (byA eNcL_law (p := 548) (v := 87) (by decide +kernel))
theorem dL_law_549 : decode cL_law 549 = .ok (.aload_n 2, 1) := dc_44 (byA eNcL_law (p := 549) (v := 44) (by decide +kernel))
theorem dL_law_550 : decode cL_law 550 = .ok (.aload_n 0, 1) := dc_42 (byA eNcL_law (p := 550) (v := 42) (by decide +kernel))
theorem dL_law_551 : decode cL_law 551 = .ok (.iload 4, 2) := dc_21 (byA eNcL_law (p := 551) (v := 21) (by decide +kernel)) (byA eNcL_law (p := 552) (v := 4) (by decide +kernel))
theorem dL_law_553 : decode cL_law 553 = .ok (.iconst 1, 1) := dc_4 (byA eNcL_law (p := 553) (v := 4) (by decide +kernel))
theorem dL_law_554 : decode cL_law 554 = .ok (.iadd, 1) := dc_96 (byA eNcL_law (p := 554) (v := 96) (by decide +kernel))
theorem dL_law_555 : decode cL_law 555 = .ok (.iaload, 1) := dc_46 (byA eNcL_law (p := 555) (v := 46) (by decide +kernel))
theorem dL_law_556 : decode cL_law 556 = .ok (.aload_n 0, 1) := dc_42 (byA eNcL_law (p := 556) (v := 42) (by decide +kernel))
theorem dL_law_557 : decode cL_law 557 = .ok (.iload 4, 2) := dc_21 (byA eNcL_law (p := 557) (v := 21) (by decide +kernel)) (byA eNcL_law (p := 558) (v := 4) (by decide +kernel))
theorem dL_law_559 : decode cL_law 559 = .ok (.iconst 2, 1) := dc_5 (byA eNcL_law (p := 559) (v := 5) (by decide +kernel))
theorem dL_law_560 : decode cL_law 560 = .ok (.iadd, 1) := dc_96 (byA eNcL_law (p := 560) (v := 96) (by decide +kernel))
theorem dL_law_561 : decode cL_law 561 = .ok (.iaload, 1) := dc_46 (byA eNcL_law (p := 561) (v := 46) (by decide +kernel))
theorem dL_law_562 : decode cL_law 562 = .ok (.invokevirtual 65, 3) := dc_182 (byA eNcL_law (p := 562) (v := 182) (by decide +kernel)) (byA eNcL_law (p := 563) (v := 0) (by decide +kernel)) (byA eNcL_law (p := 564) (v := 65) (by decide +kernel)) rfl
theorem dL_law_565 : decode cL_law 565 = .ok (.pop, 1) := dc_87 (byA eNcL_law (p := 565) (v := 87) (by decide +kernel))
theorem dL_law_566 : decode cL_law 566 = .ok (.goto 1015, 3) := dc_167 (byA eNcL_law (p := 566) (v := 167) (by decide +kernel)) (byA eNcL_law (p := 567) (v := 3) (by decide +kernel)) (byA eNcL_law (p := 568) (v := 247) (by decide +kernel)) (by decide +kernel)
theorem dL_law_569 : decode cL_law 569 = .ok (.aload_n 1, 1) := dc_43 (byA eNcL_law (p := 569) (v := 43) (by decide +kernel))
theorem dL_law_570 : decode cL_law 570 = .ok (.aload_n 0, 1) := dc_42 (byA eNcL_law (p := 570) (v := 42) (by decide +kernel))
theorem dL_law_571 : decode cL_law 571 = .ok (.iload 4, 2) := dc_21 (byA eNcL_law (p := 571) (v := 21) (by decide +kernel)) (byA eNcL_law (p := 572) (v := 4) (by decide +kernel))
theorem dL_law_573 : decode cL_law 573 = .ok (.iconst 1, 1) := dc_4 (byA eNcL_law (p := 573) (v := 4) (by decide +kernel))
theorem dL_law_574 : decode cL_law 574 = .ok (.iadd, 1) := dc_96 (byA eNcL_law (p := 574) (v := 96) (by decide +kernel))
theorem dL_law_575 : decode cL_law 575 = .ok (.iaload, 1) := dc_46 (byA eNcL_law (p := 575) (v := 46) (by decide +kernel))
theorem dL_law_576 : decode cL_law 576 = .ok (.aload_n 0, 1) := dc_42 (byA eNcL_law (p := 576) (v := 42) (by decide +kernel))
theorem dL_law_577 : decode cL_law 577 = .ok (.iload 4, 2) := dc_21 (byA eNcL_law (p := 577) (v := 21) (by decide +kernel)) (byA eNcL_law (p := 578) (v := 4) (by decide +kernel))
theorem dL_law_579 : decode cL_law 579 = .ok (.iconst 2, 1) := dc_5 (byA eNcL_law (p := 579) (v := 5) (by decide +kernel))
theorem dL_law_580 : decode cL_law 580 = .ok (.iadd, 1) := dc_96 (byA eNcL_law (p := 580) (v := 96) (by decide +kernel))
theorem dL_law_581 : decode cL_law 581 = .ok (.iaload, 1) := dc_46 (byA eNcL_law (p := 581) (v := 46) (by decide +kernel))
theorem dL_law_582 : decode cL_law 582 = .ok (.invokevirtual 66, 3) := dc_182 (byA eNcL_law (p := 582) (v := 182) (by decide +kernel)) (byA eNcL_law (p := 583) (v := 0) (by decide +kernel)) (byA eNcL_law (p := 584) (v := 66) (by decide +kernel)) rfl
theorem dL_law_585 : decode cL_law 585 = .ok (.pop, 1) := dc_87 (byA eNcL_law (p := 585) (v := 87) (by decide +kernel))
theorem dL_law_586 : decode cL_law 586 = .ok (.aload_n 2, 1) := dc_44 (byA eNcL_law (p := 586) (v := 44) (by decide +kernel))
theorem dL_law_587 : decode cL_law 587 = .ok (.aload_n 0, 1) := dc_42 (byA eNcL_law (p := 587) (v := 42) (by decide +kernel))
theorem dL_law_588 : decode cL_law 588 = .ok (.iload 4, 2) := dc_21 (byA eNcL_law (p := 588) (v := 21) (by decide +kernel)) (byA eNcL_law (p := 589) (v := 4) (by decide +kernel))
theorem dL_law_590 : decode cL_law 590 = .ok (.iconst 1, 1) := dc_4 (byA eNcL_law (p := 590) (v := 4) (by decide +kernel))
theorem dL_law_591 : decode cL_law 591 = .ok (.iadd, 1) := dc_96 (byA eNcL_law (p := 591) (v := 96) (by decide +kernel))
theorem dL_law_592 : decode cL_law 592 = .ok (.iaload, 1) := dc_46 (byA eNcL_law (p := 592) (v := 46) (by decide +kernel))
theorem dL_law_593 : decode cL_law 593 = .ok (.aload_n 0, 1) := dc_42 (byA eNcL_law (p := 593) (v := 42) (by decide +kernel))
theorem dL_law_594 : decode cL_law 594 = .ok (.iload 4, 2) := dc_21 (byA eNcL_law (p := 594) (v := 21) (by decide +kernel)) (byA eNcL_law (p := 595) (v := 4) (by decide +kernel))
theorem dL_law_596 : decode cL_law 596 = .ok (.iconst 2, 1) := dc_5 (byA eNcL_law (p := 596) (v := 5) (by decide +kernel))
theorem dL_law_597 : decode cL_law 597 = .ok (.iadd, 1) := dc_96 (byA eNcL_law (p := 597) (v := 96) (by decide +kernel))
theorem dL_law_598 : decode cL_law 598 = .ok (.iaload, 1) := dc_46 (byA eNcL_law (p := 598) (v := 46) (by decide +kernel))
theorem dL_law_599 : decode cL_law 599 = .ok (.invokevirtual 69, 3) := dc_182 (byA eNcL_law (p := 599) (v := 182) (by decide +kernel)) (byA eNcL_law (p := 600) (v := 0) (by decide +kernel)) (byA eNcL_law (p := 601) (v := 69) (by decide +kernel)) rfl
theorem dL_law_602 : decode cL_law 602 = .ok (.pop, 1) := dc_87 (byA eNcL_law (p := 602) (v := 87) (by decide +kernel))
theorem dL_law_603 : decode cL_law 603 = .ok (.goto 978, 3) := dc_167 (byA eNcL_law (p := 603) (v := 167) (by decide +kernel)) (byA eNcL_law (p := 604) (v := 3) (by decide +kernel)) (byA eNcL_law (p := 605) (v := 210) (by decide +kernel)) (by decide +kernel)
theorem dL_law_606 : decode cL_law 606 = .ok (.aload_n 1, 1) := dc_43 (byA eNcL_law (p := 606) (v := 43) (by decide +kernel))
theorem dL_law_607 : decode cL_law 607 = .ok (.aload_n 0, 1) := dc_42 (byA eNcL_law (p := 607) (v := 42) (by decide +kernel))
theorem dL_law_608 : decode cL_law 608 = .ok (.iload 4, 2) := dc_21 (byA eNcL_law (p := 608) (v := 21) (by decide +kernel)) (byA eNcL_law (p := 609) (v := 4) (by decide +kernel))
theorem dL_law_610 : decode cL_law 610 = .ok (.iconst 1, 1) := dc_4 (byA eNcL_law (p := 610) (v := 4) (by decide +kernel))
theorem dL_law_611 : decode cL_law 611 = .ok (.iadd, 1) := dc_96 (byA eNcL_law (p := 611) (v := 96) (by decide +kernel))
theorem dL_law_612 : decode cL_law 612 = .ok (.iaload, 1) := dc_46 (byA eNcL_law (p := 612) (v := 46) (by decide +kernel))
theorem dL_law_613 : decode cL_law 613 = .ok (.invokevirtual 70, 3) := dc_182 (byA eNcL_law (p := 613) (v := 182) (by decide +kernel)) (byA eNcL_law (p := 614) (v := 0) (by decide +kernel)) (byA eNcL_law (p := 615) (v := 70) (by decide +kernel)) rfl
theorem dL_law_616 : decode cL_law 616 = .ok (.pop, 1) := dc_87 (byA eNcL_law (p := 616) (v := 87) (by decide +kernel))
theorem dL_law_617 : decode cL_law 617 = .ok (.aload_n 2, 1) := dc_44 (byA eNcL_law (p := 617) (v := 44) (by decide +kernel))
theorem dL_law_618 : decode cL_law 618 = .ok (.aload_n 0, 1) := dc_42 (byA eNcL_law (p := 618) (v := 42) (by decide +kernel))
theorem dL_law_619 : decode cL_law 619 = .ok (.iload 4, 2) := dc_21 (byA eNcL_law (p := 619) (v := 21) (by decide +kernel)) (byA eNcL_law (p := 620) (v := 4) (by decide +kernel))
theorem dL_law_621 : decode cL_law 621 = .ok (.iconst 1, 1) := dc_4 (byA eNcL_law (p := 621) (v := 4) (by decide +kernel))
theorem dL_law_622 : decode cL_law 622 = .ok (.iadd, 1) := dc_96 (byA eNcL_law (p := 622) (v := 96) (by decide +kernel))
theorem dL_law_623 : decode cL_law 623 = .ok (.iaload, 1) := dc_46 (byA eNcL_law (p := 623) (v := 46) (by decide +kernel))
theorem dL_law_624 : decode cL_law 624 = .ok (.invokevirtual 73, 3) := dc_182 (byA eNcL_law (p := 624) (v := 182) (by decide +kernel)) (byA eNcL_law (p := 625) (v := 0) (by decide +kernel)) (byA eNcL_law (p := 626) (v := 73) (by decide +kernel)) rfl
theorem dL_law_627 : decode cL_law 627 = .ok (.pop, 1) := dc_87 (byA eNcL_law (p := 627) (v := 87) (by decide +kernel))
theorem dL_law_628 : decode cL_law 628 = .ok (.goto 953, 3) := dc_167 (byA eNcL_law (p := 628) (v := 167) (by decide +kernel)) (byA eNcL_law (p := 629) (v := 3) (by decide +kernel)) (byA eNcL_law (p := 630) (v := 185) (by decide +kernel)) (by decide +kernel)
theorem dL_law_631 : decode cL_law 631 = .ok (.aload_n 1, 1) := dc_43 (byA eNcL_law (p := 631) (v := 43) (by decide +kernel))
theorem dL_law_632 : decode cL_law 632 = .ok (.aload_n 0, 1) := dc_42 (byA eNcL_law (p := 632) (v := 42) (by decide +kernel))
theorem dL_law_633 : decode cL_law 633 = .ok (.iload 4, 2) := dc_21 (byA eNcL_law (p := 633) (v := 21) (by decide +kernel)) (byA eNcL_law (p := 634) (v := 4) (by decide +kernel))
theorem dL_law_635 : decode cL_law 635 = .ok (.iconst 1, 1) := dc_4 (byA eNcL_law (p := 635) (v := 4) (by decide +kernel))
theorem dL_law_636 : decode cL_law 636 = .ok (.iadd, 1) := dc_96 (byA eNcL_law (p := 636) (v := 96) (by decide +kernel))
theorem dL_law_637 : decode cL_law 637 = .ok (.iaload, 1) := dc_46 (byA eNcL_law (p := 637) (v := 46) (by decide +kernel))
theorem dL_law_638 : decode cL_law 638 = .ok (.aload_n 0, 1) := dc_42 (byA eNcL_law (p := 638) (v := 42) (by decide +kernel))
theorem dL_law_639 : decode cL_law 639 = .ok (.iload 4, 2) := dc_21 (byA eNcL_law (p := 639) (v := 21) (by decide +kernel)) (byA eNcL_law (p := 640) (v := 4) (by decide +kernel))
theorem dL_law_641 : decode cL_law 641 = .ok (.iconst 2, 1) := dc_5 (byA eNcL_law (p := 641) (v := 5) (by decide +kernel))
theorem dL_law_642 : decode cL_law 642 = .ok (.iadd, 1) := dc_96 (byA eNcL_law (p := 642) (v := 96) (by decide +kernel))
theorem dL_law_643 : decode cL_law 643 = .ok (.iaload, 1) := dc_46 (byA eNcL_law (p := 643) (v := 46) (by decide +kernel))
theorem dL_law_644 : decode cL_law 644 = .ok (.aload_n 0, 1) := dc_42 (byA eNcL_law (p := 644) (v := 42) (by decide +kernel))
theorem dL_law_645 : decode cL_law 645 = .ok (.iload 4, 2) := dc_21 (byA eNcL_law (p := 645) (v := 21) (by decide +kernel)) (byA eNcL_law (p := 646) (v := 4) (by decide +kernel))
theorem dL_law_647 : decode cL_law 647 = .ok (.iconst 3, 1) := dc_6 (byA eNcL_law (p := 647) (v := 6) (by decide +kernel))
theorem dL_law_648 : decode cL_law 648 = .ok (.iadd, 1) := dc_96 (byA eNcL_law (p := 648) (v := 96) (by decide +kernel))
theorem dL_law_649 : decode cL_law 649 = .ok (.iaload, 1) := dc_46 (byA eNcL_law (p := 649) (v := 46) (by decide +kernel))
theorem dL_law_650 : decode cL_law 650 = .ok (.invokevirtual 74, 3) := dc_182 (byA eNcL_law (p := 650) (v := 182) (by decide +kernel)) (byA eNcL_law (p := 651) (v := 0) (by decide +kernel)) (byA eNcL_law (p := 652) (v := 74) (by decide +kernel)) rfl
theorem dL_law_653 : decode cL_law 653 = .ok (.pop, 1) := dc_87 (byA eNcL_law (p := 653) (v := 87) (by decide +kernel))
theorem dL_law_654 : decode cL_law 654 = .ok (.aload_n 2, 1) := dc_44 (byA eNcL_law (p := 654) (v := 44) (by decide +kernel))
theorem dL_law_655 : decode cL_law 655 = .ok (.aload_n 0, 1) := dc_42 (byA eNcL_law (p := 655) (v := 42) (by decide +kernel))
theorem dL_law_656 : decode cL_law 656 = .ok (.iload 4, 2) := dc_21 (byA eNcL_law (p := 656) (v := 21) (by decide +kernel)) (byA eNcL_law (p := 657) (v := 4) (by decide +kernel))
theorem dL_law_658 : decode cL_law 658 = .ok (.iconst 1, 1) := dc_4 (byA eNcL_law (p := 658) (v := 4) (by decide +kernel))
theorem dL_law_659 : decode cL_law 659 = .ok (.iadd, 1) := dc_96 (byA eNcL_law (p := 659) (v := 96) (by decide +kernel))
theorem dL_law_660 : decode cL_law 660 = .ok (.iaload, 1) := dc_46 (byA eNcL_law (p := 660) (v := 46) (by decide +kernel))
theorem dL_law_661 : decode cL_law 661 = .ok (.aload_n 0, 1) := dc_42 (byA eNcL_law (p := 661) (v := 42) (by decide +kernel))
theorem dL_law_662 : decode cL_law 662 = .ok (.iload 4, 2) := dc_21 (byA eNcL_law (p := 662) (v := 21) (by decide +kernel)) (byA eNcL_law (p := 663) (v := 4) (by decide +kernel))
theorem dL_law_664 : decode cL_law 664 = .ok (.iconst 2, 1) := dc_5 (byA eNcL_law (p := 664) (v := 5) (by decide +kernel))
theorem dL_law_665 : decode cL_law 665 = .ok (.iadd, 1) := dc_96 (byA eNcL_law (p := 665) (v := 96) (by decide +kernel))
theorem dL_law_666 : decode cL_law 666 = .ok (.iaload, 1) := dc_46 (byA eNcL_law (p := 666) (v := 46) (by decide +kernel))
theorem dL_law_667 : decode cL_law 667 = .ok (.aload_n 0, 1) := dc_42 (byA eNcL_law (p := 667) (v := 42) (by decide +kernel))
theorem dL_law_668 : decode cL_law 668 = .ok (.iload 4, 2) := dc_21 (byA eNcL_law (p := 668) (v := 21) (by decide +kernel)) (byA eNcL_law (p := 669) (v := 4) (by decide +kernel))
theorem dL_law_670 : decode cL_law 670 = .ok (.iconst 3, 1) := dc_6 (byA eNcL_law (p := 670) (v := 6) (by decide +kernel))
theorem dL_law_671 : decode cL_law 671 = .ok (.iadd, 1) := dc_96 (byA eNcL_law (p := 671) (v := 96) (by decide +kernel))
theorem dL_law_672 : decode cL_law 672 = .ok (.iaload, 1) := dc_46 (byA eNcL_law (p := 672) (v := 46) (by decide +kernel))
theorem dL_law_673 : decode cL_law 673 = .ok (.invokevirtual 77, 3) := dc_182 (byA eNcL_law (p := 673) (v := 182) (by decide +kernel)) (byA eNcL_law (p := 674) (v := 0) (by decide +kernel)) (byA eNcL_law (p := 675) (v := 77) (by decide +kernel)) rfl
theorem dL_law_676 : decode cL_law 676 = .ok (.pop, 1) := dc_87 (byA eNcL_law (p := 676) (v := 87) (by decide +kernel))
theorem dL_law_677 : decode cL_law 677 = .ok (.goto 904, 3) := dc_167 (byA eNcL_law (p := 677) (v := 167) (by decide +kernel)) (byA eNcL_law (p := 678) (v := 3) (by decide +kernel)) (byA eNcL_law (p := 679) (v := 136) (by decide +kernel)) (by decide +kernel)
theorem dL_law_680 : decode cL_law 680 = .ok (.aload_n 1, 1) := dc_43 (byA eNcL_law (p := 680) (v := 43) (by decide +kernel))
theorem dL_law_681 : decode cL_law 681 = .ok (.aload_n 0, 1) := dc_42 (byA eNcL_law (p := 681) (v := 42) (by decide +kernel))
theorem dL_law_682 : decode cL_law 682 = .ok (.iload 4, 2) := dc_21 (byA eNcL_law (p := 682) (v := 21) (by decide +kernel)) (byA eNcL_law (p := 683) (v := 4) (by decide +kernel))
theorem dL_law_684 : decode cL_law 684 = .ok (.iconst 1, 1) := dc_4 (byA eNcL_law (p := 684) (v := 4) (by decide +kernel))
theorem dL_law_685 : decode cL_law 685 = .ok (.iadd, 1) := dc_96 (byA eNcL_law (p := 685) (v := 96) (by decide +kernel))
theorem dL_law_686 : decode cL_law 686 = .ok (.iaload, 1) := dc_46 (byA eNcL_law (p := 686) (v := 46) (by decide +kernel))
theorem dL_law_687 : decode cL_law 687 = .ok (.aload_n 0, 1) := dc_42 (byA eNcL_law (p := 687) (v := 42) (by decide +kernel))
theorem dL_law_688 : decode cL_law 688 = .ok (.iload 4, 2) := dc_21 (byA eNcL_law (p := 688) (v := 21) (by decide +kernel)) (byA eNcL_law (p := 689) (v := 4) (by decide +kernel))
theorem dL_law_690 : decode cL_law 690 = .ok (.iconst 2, 1) := dc_5 (byA eNcL_law (p := 690) (v := 5) (by decide +kernel))
theorem dL_law_691 : decode cL_law 691 = .ok (.iadd, 1) := dc_96 (byA eNcL_law (p := 691) (v := 96) (by decide +kernel))
theorem dL_law_692 : decode cL_law 692 = .ok (.iaload, 1) := dc_46 (byA eNcL_law (p := 692) (v := 46) (by decide +kernel))
theorem dL_law_693 : decode cL_law 693 = .ok (.aload_n 0, 1) := dc_42 (byA eNcL_law (p := 693) (v := 42) (by decide +kernel))
theorem dL_law_694 : decode cL_law 694 = .ok (.iload 4, 2) := dc_21 (byA eNcL_law (p := 694) (v := 21) (by decide +kernel)) (byA eNcL_law (p := 695) (v := 4) (by decide +kernel))
theorem dL_law_696 : decode cL_law 696 = .ok (.iconst 3, 1) := dc_6 (byA eNcL_law (p := 696) (v := 6) (by decide +kernel))
theorem dL_law_697 : decode cL_law 697 = .ok (.iadd, 1) := dc_96 (byA eNcL_law (p := 697) (v := 96) (by decide +kernel))
theorem dL_law_698 : decode cL_law 698 = .ok (.iaload, 1) := dc_46 (byA eNcL_law (p := 698) (v := 46) (by decide +kernel))
theorem dL_law_699 : decode cL_law 699 = .ok (.aload_n 0, 1) := dc_42 (byA eNcL_law (p := 699) (v := 42) (by decide +kernel))
theorem dL_law_700 : decode cL_law 700 = .ok (.iload 4, 2) := dc_21 (byA eNcL_law (p := 700) (v := 21) (by decide +kernel)) (byA eNcL_law (p := 701) (v := 4) (by decide +kernel))
theorem dL_law_702 : decode cL_law 702 = .ok (.iconst 4, 1) := dc_7 (byA eNcL_law (p := 702) (v := 7) (by decide +kernel))
theorem dL_law_703 : decode cL_law 703 = .ok (.iadd, 1) := dc_96 (byA eNcL_law (p := 703) (v := 96) (by decide +kernel))
theorem dL_law_704 : decode cL_law 704 = .ok (.iaload, 1) := dc_46 (byA eNcL_law (p := 704) (v := 46) (by decide +kernel))
theorem dL_law_705 : decode cL_law 705 = .ok (.invokevirtual 78, 3) := dc_182 (byA eNcL_law (p := 705) (v := 182) (by decide +kernel)) (byA eNcL_law (p := 706) (v := 0) (by decide +kernel)) (byA eNcL_law (p := 707) (v := 78) (by decide +kernel)) rfl
theorem dL_law_708 : decode cL_law 708 = .ok (.pop, 1) := dc_87 (byA eNcL_law (p := 708) (v := 87) (by decide +kernel))
theorem dL_law_709 : decode cL_law 709 = .ok (.aload_n 2, 1) := dc_44 (byA eNcL_law (p := 709) (v := 44) (by decide +kernel))
theorem dL_law_710 : decode cL_law 710 = .ok (.aload_n 0, 1) := dc_42 (byA eNcL_law (p := 710) (v := 42) (by decide +kernel))
theorem dL_law_711 : decode cL_law 711 = .ok (.iload 4, 2) := dc_21 (byA eNcL_law (p := 711) (v := 21) (by decide +kernel)) (byA eNcL_law (p := 712) (v := 4) (by decide +kernel))
theorem dL_law_713 : decode cL_law 713 = .ok (.iconst 1, 1) := dc_4 (byA eNcL_law (p := 713) (v := 4) (by decide +kernel))
theorem dL_law_714 : decode cL_law 714 = .ok (.iadd, 1) := dc_96 (byA eNcL_law (p := 714) (v := 96) (by decide +kernel))
theorem dL_law_715 : decode cL_law 715 = .ok (.iaload, 1) := dc_46 (byA eNcL_law (p := 715) (v := 46) (by decide +kernel))
theorem dL_law_716 : decode cL_law 716 = .ok (.aload_n 0, 1) := dc_42 (byA eNcL_law (p := 716) (v := 42) (by decide +kernel))
theorem dL_law_717 : decode cL_law 717 = .ok (.iload 4, 2) := dc_21 (byA eNcL_law (p := 717) (v := 21) (by decide +kernel)) (byA eNcL_law (p := 718) (v := 4) (by decide +kernel))
theorem dL_law_719 : decode cL_law 719 = .ok (.iconst 2, 1) := dc_5 (byA eNcL_law (p := 719) (v := 5) (by decide +kernel))
theorem dL_law_720 : decode cL_law 720 = .ok (.iadd, 1) := dc_96 (byA eNcL_law (p := 720) (v := 96) (by decide +kernel))
theorem dL_law_721 : decode cL_law 721 = .ok (.iaload, 1) := dc_46 (byA eNcL_law (p := 721) (v := 46) (by decide +kernel))
theorem dL_law_722 : decode cL_law 722 = .ok (.aload_n 0, 1) := dc_42 (byA eNcL_law (p := 722) (v := 42) (by decide +kernel))
theorem dL_law_723 : decode cL_law 723 = .ok (.iload 4, 2) := dc_21 (byA eNcL_law (p := 723) (v := 21) (by decide +kernel)) (byA eNcL_law (p := 724) (v := 4) (by decide +kernel))
theorem dL_law_725 : decode cL_law 725 = .ok (.iconst 3, 1) := dc_6 (byA eNcL_law (p := 725) (v := 6) (by decide +kernel))
theorem dL_law_726 : decode cL_law 726 = .ok (.iadd, 1) := dc_96 (byA eNcL_law (p := 726) (v := 96) (by decide +kernel))
theorem dL_law_727 : decode cL_law 727 = .ok (.iaload, 1) := dc_46 (byA eNcL_law (p := 727) (v := 46) (by decide +kernel))
theorem dL_law_728 : decode cL_law 728 = .ok (.aload_n 0, 1) := dc_42 (byA eNcL_law (p := 728) (v := 42) (by decide +kernel))
theorem dL_law_729 : decode cL_law 729 = .ok (.iload 4, 2) := dc_21 (byA eNcL_law (p := 729) (v := 21) (by decide +kernel)) (byA eNcL_law (p := 730) (v := 4) (by decide +kernel))
theorem dL_law_731 : decode cL_law 731 = .ok (.iconst 4, 1) := dc_7 (byA eNcL_law (p := 731) (v := 7) (by decide +kernel))
theorem dL_law_732 : decode cL_law 732 = .ok (.iadd, 1) := dc_96 (byA eNcL_law (p := 732) (v := 96) (by decide +kernel))
theorem dL_law_733 : decode cL_law 733 = .ok (.iaload, 1) := dc_46 (byA eNcL_law (p := 733) (v := 46) (by decide +kernel))
theorem dL_law_734 : decode cL_law 734 = .ok (.invokevirtual 82, 3) := dc_182 (byA eNcL_law (p := 734) (v := 182) (by decide +kernel)) (byA eNcL_law (p := 735) (v := 0) (by decide +kernel)) (byA eNcL_law (p := 736) (v := 82) (by decide +kernel)) rfl
theorem dL_law_737 : decode cL_law 737 = .ok (.pop, 1) := dc_87 (byA eNcL_law (p := 737) (v := 87) (by decide +kernel))
theorem dL_law_738 : decode cL_law 738 = .ok (.goto 843, 3) := dc_167 (byA eNcL_law (p := 738) (v := 167) (by decide +kernel)) (byA eNcL_law (p := 739) (v := 3) (by decide +kernel)) (byA eNcL_law (p := 740) (v := 75) (by decide +kernel)) (by decide +kernel)
theorem dL_law_741 : decode cL_law 741 = .ok (.aload_n 1, 1) := dc_43 (byA eNcL_law (p := 741) (v := 43) (by decide +kernel))
theorem dL_law_742 : decode cL_law 742 = .ok (.aload_n 0, 1) := dc_42 (byA eNcL_law (p := 742) (v := 42) (by decide +kernel))
theorem dL_law_743 : decode cL_law 743 = .ok (.iload 4, 2) := dc_21 (byA eNcL_law (p := 743) (v := 21) (by decide +kernel)) (byA eNcL_law (p := 744) (v := 4) (by decide +kernel))
theorem dL_law_745 : decode cL_law 745 = .ok (.iconst 1, 1) := dc_4 (byA eNcL_law (p := 745) (v := 4) (by decide +kernel))
theorem dL_law_746 : decode cL_law 746 = .ok (.iadd, 1) := dc_96 (byA eNcL_law (p := 746) (v := 96) (by decide +kernel))
theorem dL_law_747 : decode cL_law 747 = .ok (.iaload, 1) := dc_46 (byA eNcL_law (p := 747) (v := 46) (by decide +kernel))
theorem dL_law_748 : decode cL_law 748 = .ok (.aload_n 0, 1) := dc_42 (byA eNcL_law (p := 748) (v := 42) (by decide +kernel))
theorem dL_law_749 : decode cL_law 749 = .ok (.iload 4, 2) := dc_21 (byA eNcL_law (p := 749) (v := 21) (by decide +kernel)) (byA eNcL_law (p := 750) (v := 4) (by decide +kernel))
theorem dL_law_751 : decode cL_law 751 = .ok (.iconst 2, 1) := dc_5 (byA eNcL_law (p := 751) (v := 5) (by decide +kernel))
theorem dL_law_752 : decode cL_law 752 = .ok (.iadd, 1) := dc_96 (byA eNcL_law (p := 752) (v := 96) (by decide +kernel))
theorem dL_law_753 : decode cL_law 753 = .ok (.iaload, 1) := dc_46 (byA eNcL_law (p := 753) (v := 46) (by decide +kernel))
theorem dL_law_754 : decode cL_law 754 = .ok (.aload_n 0, 1) := dc_42 (byA eNcL_law (p := 754) (v := 42) (by decide +kernel))
theorem dL_law_755 : decode cL_law 755 = .ok (.iload 4, 2) := dc_21 (byA eNcL_law (p := 755) (v := 21) (by decide +kernel)) (byA eNcL_law (p := 756) (v := 4) (by decide +kernel))
theorem dL_law_757 : decode cL_law 757 = .ok (.iconst 3, 1) := dc_6 (byA eNcL_law (p := 757) (v := 6) (by decide +kernel))
theorem dL_law_758 : decode cL_law 758 = .ok (.iadd, 1) := dc_96 (byA eNcL_law (p := 758) (v := 96) (by decide +kernel))
theorem dL_law_759 : decode cL_law 759 = .ok (.iaload, 1) := dc_46 (byA eNcL_law (p := 759) (v := 46) (by decide +kernel))
theorem dL_law_760 : decode cL_law 760 = .ok (.invokevirtual 83, 3) := dc_182 (byA eNcL_law (p := 760) (v := 182) (by decide +kernel)) (byA eNcL_law (p := 761) (v := 0) (by decide +kernel)) (byA eNcL_law (p := 762) (v := 83) (by decide +kernel)) rfl
theorem dL_law_763 : decode cL_law 763 = .ok (.pop, 1) := dc_87 (byA eNcL_law (p := 763) (v := 87) (by decide +kernel))
theorem dL_law_764 : decode cL_law 764 = .ok (.aload_n 2, 1) := dc_44 (byA eNcL_law (p := 764) (v := 44) (by decide +kernel))
theorem dL_law_765 : decode cL_law 765 = .ok (.aload_n 0, 1) := dc_42 (byA eNcL_law (p := 765) (v := 42) (by decide +kernel))
theorem dL_law_766 : decode cL_law 766 = .ok (.iload 4, 2) := dc_21 (byA eNcL_law (p := 766) (v := 21) (by decide +kernel)) (byA eNcL_law (p := 767) (v := 4) (by decide +kernel))
theorem dL_law_768 : decode cL_law 768 = .ok (.iconst 1, 1) := dc_4 (byA eNcL_law (p := 768) (v := 4) (by decide +kernel))
theorem dL_law_769 : decode cL_law 769 = .ok (.iadd, 1) := dc_96 (byA eNcL_law (p := 769) (v := 96) (by decide +kernel))
theorem dL_law_770 : decode cL_law 770 = .ok (.iaload, 1) := dc_46 (byA eNcL_law (p := 770) (v := 46) (by decide +kernel))
theorem dL_law_771 : decode cL_law 771 = .ok (.aload_n 0, 1) := dc_42 (byA eNcL_law (p := 771) (v := 42) (by decide +kernel))
theorem dL_law_772 : decode cL_law 772 = .ok (.iload 4, 2) := dc_21 (byA eNcL_law (p := 772) (v := 21) (by decide +kernel)) (byA eNcL_law (p := 773) (v := 4) (by decide +kernel))
theorem dL_law_774 : decode cL_law 774 = .ok (.iconst 2, 1) := dc_5 (byA eNcL_law (p := 774) (v := 5) (by decide +kernel))
theorem dL_law_775 : decode cL_law 775 = .ok (.iadd, 1) := dc_96 (byA eNcL_law (p := 775) (v := 96) (by decide +kernel))
theorem dL_law_776 : decode cL_law 776 = .ok (.iaload, 1) := dc_46 (byA eNcL_law (p := 776) (v := 46) (by decide +kernel))
theorem dL_law_777 : decode cL_law 777 = .ok (.aload_n 0, 1) := dc_42 (byA eNcL_law (p := 777) (v := 42) (by decide +kernel))
theorem dL_law_778 : decode cL_law 778 = .ok (.iload 4, 2) := dc_21 (byA eNcL_law (p := 778) (v := 21) (by decide +kernel)) (byA eNcL_law (p := 779) (v := 4) (by decide +kernel))
theorem dL_law_780 : decode cL_law 780 = .ok (.iconst 3, 1) := dc_6 (byA eNcL_law (p := 780) (v := 6) (by decide +kernel))
theorem dL_law_781 : decode cL_law 781 = .ok (.iadd, 1) := dc_96 (byA eNcL_law (p := 781) (v := 96) (by decide +kernel))
theorem dL_law_782 : decode cL_law 782 = .ok (.iaload, 1) := dc_46 (byA eNcL_law (p := 782) (v := 46) (by decide +kernel))
theorem dL_law_783 : decode cL_law 783 = .ok (.invokevirtual 86, 3) := dc_182 (byA eNcL_law (p := 783) (v := 182) (by decide +kernel)) (byA eNcL_law (p := 784) (v := 0) (by decide +kernel)) (byA eNcL_law (p := 785) (v := 86) (by decide +kernel)) rfl
theorem dL_law_786 : decode cL_law 786 = .ok (.pop, 1) := dc_87 (byA eNcL_law (p := 786) (v := 87) (by decide +kernel))
theorem dL_law_787 : decode cL_law 787 = .ok (.goto 794, 3) := dc_167 (byA eNcL_law (p := 787) (v := 167) (by decide +kernel)) (byA eNcL_law (p := 788) (v := 3) (by decide +kernel)) (byA eNcL_law (p := 789) (v := 26) (by decide +kernel)) (by decide +kernel)
theorem dL_law_790 : decode cL_law 790 = .ok (.aload_n 1, 1) := dc_43 (byA eNcL_law (p := 790) (v := 43) (by decide +kernel))
theorem dL_law_791 : decode cL_law 791 = .ok (.aload_n 0, 1) := dc_42 (byA eNcL_law (p := 791) (v := 42) (by decide +kernel))
theorem dL_law_792 : decode cL_law 792 = .ok (.iload 4, 2) := dc_21 (byA eNcL_law (p := 792) (v := 21) (by decide +kernel)) (byA eNcL_law (p := 793) (v := 4) (by decide +kernel))
theorem dL_law_794 : decode cL_law 794 = .ok (.iconst 1, 1) := dc_4 (byA eNcL_law (p := 794) (v := 4) (by decide +kernel))
theorem dL_law_795 : decode cL_law 795 = .ok (.iadd, 1) := dc_96 (byA eNcL_law (p := 795) (v := 96) (by decide +kernel))
theorem dL_law_796 : decode cL_law 796 = .ok (.iaload, 1) := dc_46 (byA eNcL_law (p := 796) (v := 46) (by decide +kernel))
theorem dL_law_797 : decode cL_law 797 = .ok (.aload_n 0, 1) := dc_42 (byA eNcL_law (p := 797) (v := 42) (by decide +kernel))
theorem dL_law_798 : decode cL_law 798 = .ok (.iload 4, 2) := dc_21 (byA eNcL_law (p := 798) (v := 21) (by decide +kernel)) (byA eNcL_law (p := 799) (v := 4) (by decide +kernel))
theorem dL_law_800 : decode cL_law 800 = .ok (.iconst 2, 1) := dc_5 (byA eNcL_law (p := 800) (v := 5) (by decide +kernel))
theorem dL_law_801 : decode cL_law 801 = .ok (.iadd, 1) := dc_96 (byA eNcL_law (p := 801) (v := 96) (by decide +kernel))
theorem dL_law_802 : decode cL_law 802 = .ok (.iaload, 1) := dc_46 (byA eNcL_law (p := 802) (v := 46) (by decide +kernel))
theorem dL_law_803 : decode cL_law 803 = .ok (.aload_n 0, 1) := dc_42 (byA eNcL_law (p := 803) (v := 42) (by decide +kernel))
theorem dL_law_804 : decode cL_law 804 = .ok (.iload 4, 2) := dc_21 (byA eNcL_law (p := 804) (v := 21) (by decide +kernel)) (byA eNcL_law (p := 805) (v := 4) (by decide +kernel))
theorem dL_law_806 : decode cL_law 806 = .ok (.iconst 3, 1) := dc_6 (byA eNcL_law (p := 806) (v := 6) (by decide +kernel))
theorem dL_law_807 : decode cL_law 807 = .ok (.iadd, 1) := dc_96 (byA eNcL_law (p := 807) (v := 96) (by decide +kernel))
theorem dL_law_808 : decode cL_law 808 = .ok (.iaload, 1) := dc_46 (byA eNcL_law (p := 808) (v := 46) (by decide +kernel))
theorem dL_law_809 : decode cL_law 809 = .ok (.invokevirtual 87, 3) := dc_182 (byA eNcL_law (p := 809) (v := 182) (by decide +kernel)) (byA eNcL_law (p := 810) (v := 0) (by decide +kernel)) (byA eNcL_law (p := 811) (v := 87) (by decide +kernel)) rfl
theorem dL_law_812 : decode cL_law 812 = .ok (.pop, 1) := dc_87 (byA eNcL_law (p := 812) (v := 87) (by decide +kernel))
theorem dL_law_813 : decode cL_law 813 = .ok (.aload_n 2, 1) := dc_44 (byA eNcL_law (p := 813) (v := 44) (by decide +kernel))
theorem dL_law_814 : decode cL_law 814 = .ok (.aload_n 0, 1) := dc_42 (byA eNcL_law (p := 814) (v := 42) (by decide +kernel))
theorem dL_law_815 : decode cL_law 815 = .ok (.iload 4, 2) := dc_21 (byA eNcL_law (p := 815) (v := 21) (by decide +kernel)) (byA eNcL_law (p := 816) (v := 4) (by decide +kernel))
theorem dL_law_817 : decode cL_law 817 = .ok (.iconst 1, 1) := dc_4 (byA eNcL_law (p := 817) (v := 4) (by decide +kernel))
theorem dL_law_818 : decode cL_law 818 = .ok (.iadd, 1) := dc_96 (byA eNcL_law (p := 818) (v := 96) (by decide +kernel))
theorem dL_law_819 : decode cL_law 819 = .ok (.iaload, 1) := dc_46 (byA eNcL_law (p := 819) (v := 46) (by decide +kernel))
theorem dL_law_820 : decode cL_law 820 = .ok (.aload_n 0, 1) := dc_42 (byA eNcL_law (p := 820) (v := 42) (by decide +kernel))
theorem dL_law_821 : decode cL_law 821 = .ok (.iload 4, 2) := dc_21 (byA eNcL_law (p := 821) (v := 21) (by decide +kernel)) (byA eNcL_law (p := 822) (v := 4) (by decide +kernel))
theorem dL_law_823 : decode cL_law 823 = .ok (.iconst 2, 1) := dc_5 (byA eNcL_law (p := 823) (v := 5) (by decide +kernel))
theorem dL_law_824 : decode cL_law 824 = .ok (.iadd, 1) := dc_96 (byA eNcL_law (p := 824) (v := 96) (by decide +kernel))
theorem dL_law_825 : decode cL_law 825 = .ok (.iaload, 1) := dc_46 (byA eNcL_law (p := 825) (v := 46) (by decide +kernel))
theorem dL_law_826 : decode cL_law 826 = .ok (.aload_n 0, 1) := dc_42 (byA eNcL_law (p := 826) (v := 42) (by decide +kernel))
theorem dL_law_827 : decode cL_law 827 = .ok (.iload 4, 2) := dc_21 (byA eNcL_law (p := 827) (v := 21) (by decide +kernel)) (byA eNcL_law (p := 828) (v := 4) (by decide +kernel))
theorem dL_law_829 : decode cL_law 829 = .ok (.iconst 3, 1) := dc_6 (byA eNcL_law (p := 829) (v := 6) (by decide +kernel))
theorem dL_law_830 : decode cL_law 830 = .ok (.iadd, 1) := dc_96 (byA eNcL_law (p := 830) (v := 96) (by decide +kernel))
theorem dL_law_831 : decode cL_law 831 = .ok (.iaload, 1) := dc_46 (byA eNcL_law (p := 831) (v := 46) (by decide +kernel))
theorem dL_law_832 : decode cL_law 832 = .ok (.invokevirtual 90, 3) := dc_182 (byA eNcL_law (p := 832) (v := 182) (by decide +kernel)) (byA eNcL_law (p := 833) (v := 0) (by decide +kernel)) (byA eNcL_law (p := 834) (v := 90) (by decide +kernel)) rfl
theorem dL_law_835 : decode cL_law 835 = .ok (.pop, 1) := dc_87 (byA eNcL_law (p := 835) (v := 87) (by decide +kernel))
theorem dL_law_836 : decode cL_law 836 = .ok (.goto 745, 3) := dc_167 (byA eNcL_law (p := 836) (v := 167) (by decide +kernel)) (byA eNcL_law (p := 837) (v := 2) (by decide +kernel)) (byA eNcL_law (p := 838) (v := 233) (by decide +kernel)) (by decide +kernel)
theorem dL_law_839 : decode cL_law 839 = .ok (.aload_n 1, 1) := dc_43 (byA eNcL_law (p := 839) (v := 43) (by decide +kernel))
theorem dL_law_840 : decode cL_law 840 = .ok (.aload_n 0, 1) := dc_42 (byA eNcL_law (p := 840) (v := 42) (by decide +kernel))
theorem dL_law_841 : decode cL_law 841 = .ok (.iload 4, 2) := dc_21 (byA eNcL_law (p := 841) (v := 21) (by decide +kernel)) (byA eNcL_law (p := 842) (v := 4) (by decide +kernel))
theorem dL_law_843 : decode cL_law 843 = .ok (.iconst 1, 1) := dc_4 (byA eNcL_law (p := 843) (v := 4) (by decide +kernel))
theorem dL_law_844 : decode cL_law 844 = .ok (.iadd, 1) := dc_96 (byA eNcL_law (p := 844) (v := 96) (by decide +kernel))
theorem dL_law_845 : decode cL_law 845 = .ok (.iaload, 1) := dc_46 (byA eNcL_law (p := 845) (v := 46) (by decide +kernel))
theorem dL_law_846 : decode cL_law 846 = .ok (.aload_n 0, 1) := dc_42 (byA eNcL_law (p := 846) (v := 42) (by decide +kernel))
theorem dL_law_847 : decode cL_law 847 = .ok (.iload 4, 2) := dc_21 (byA eNcL_law (p := 847) (v := 21) (by decide +kernel)) (byA eNcL_law (p := 848) (v := 4) (by decide +kernel))
theorem dL_law_849 : decode cL_law 849 = .ok (.iconst 2, 1) := dc_5 (byA eNcL_law (p := 849) (v := 5) (by decide +kernel))
theorem dL_law_850 : decode cL_law 850 = .ok (.iadd, 1) := dc_96 (byA eNcL_law (p := 850) (v := 96) (by decide +kernel))
theorem dL_law_851 : decode cL_law 851 = .ok (.iaload, 1) := dc_46 (byA eNcL_law (p := 851) (v := 46) (by decide +kernel))
theorem dL_law_852 : decode cL_law 852 = .ok (.invokevirtual 91, 3) := dc_182 (byA eNcL_law (p := 852) (v := 182) (by decide +kernel)) (byA eNcL_law (p := 853) (v := 0) (by decide +kernel)) (byA eNcL_law (p := 854) (v := 91) (by decide +kernel)) rfl
theorem dL_law_855 : decode cL_law 855 = .ok (.pop, 1) := dc_87 (byA eNcL_law (p := 855) (v := 87) (by decide +kernel))
theorem dL_law_856 : decode cL_law 856 = .ok (.aload_n 2, 1) := dc_44 (byA eNcL_law (p := 856) (v := 44) (by decide +kernel))
theorem dL_law_857 : decode cL_law 857 = .ok (.aload_n 0, 1) := dc_42 (byA eNcL_law (p := 857) (v := 42) (by decide +kernel))
theorem dL_law_858 : decode cL_law 858 = .ok (.iload 4, 2) := dc_21 (byA eNcL_law (p := 858) (v := 21) (by decide +kernel)) (byA eNcL_law (p := 859) (v := 4) (by decide +kernel))
theorem dL_law_860 : decode cL_law 860 = .ok (.iconst 1, 1) := dc_4 (byA eNcL_law (p := 860) (v := 4) (by decide +kernel))
theorem dL_law_861 : decode cL_law 861 = .ok (.iadd, 1) := dc_96 (byA eNcL_law (p := 861) (v := 96) (by decide +kernel))
theorem dL_law_862 : decode cL_law 862 = .ok (.iaload, 1) := dc_46 (byA eNcL_law (p := 862) (v := 46) (by decide +kernel))
theorem dL_law_863 : decode cL_law 863 = .ok (.aload_n 0, 1) := dc_42 (byA eNcL_law (p := 863) (v := 42) (by decide +kernel))
theorem dL_law_864 : decode cL_law 864 = .ok (.iload 4, 2) := dc_21 (byA eNcL_law (p := 864) (v := 21) (by decide +kernel)) (byA eNcL_law (p := 865) (v := 4) (by decide +kernel))
theorem dL_law_866 : decode cL_law 866 = .ok (.iconst 2, 1) := dc_5 (byA eNcL_law (p := 866) (v := 5) (by decide +kernel))
theorem dL_law_867 : decode cL_law 867 = .ok (.iadd, 1) := dc_96 (byA eNcL_law (p := 867) (v := 96) (by decide +kernel))
theorem dL_law_868 : decode cL_law 868 = .ok (.iaload, 1) := dc_46 (byA eNcL_law (p := 868) (v := 46) (by decide +kernel))
theorem dL_law_869 : decode cL_law 869 = .ok (.invokevirtual 94, 3) := dc_182 (byA eNcL_law (p := 869) (v := 182) (by decide +kernel)) (byA eNcL_law (p := 870) (v := 0) (by decide +kernel)) (byA eNcL_law (p := 871) (v := 94) (by decide +kernel)) rfl
theorem dL_law_872 : decode cL_law 872 = .ok (.pop, 1) := dc_87 (byA eNcL_law (p := 872) (v := 87) (by decide +kernel))
theorem dL_law_873 : decode cL_law 873 = .ok (.goto 708, 3) := dc_167 (byA eNcL_law (p := 873) (v := 167) (by decide +kernel)) (byA eNcL_law (p := 874) (v := 2) (by decide +kernel)) (byA eNcL_law (p := 875) (v := 196) (by decide +kernel)) (by decide +kernel)
theorem dL_law_876 : decode cL_law 876 = .ok (.aload_n 1, 1) := dc_43 (byA eNcL_law (p := 876) (v := 43) (by decide +kernel))
theorem dL_law_877 : decode cL_law 877 = .ok (.aload_n 0, 1) := dc_42 (byA eNcL_law (p := 877) (v := 42) (by decide +kernel))
theorem dL_law_878 : decode cL_law 878 = .ok (.iload 4, 2) := dc_21 (byA eNcL_law (p := 878) (v := 21) (by decide +kernel)) (byA eNcL_law (p := 879) (v := 4) (by decide +kernel))
theorem dL_law_880 : decode cL_law 880 = .ok (.iconst 1, 1) := dc_4 (byA eNcL_law (p := 880) (v := 4) (by decide +kernel))
theorem dL_law_881 : decode cL_law 881 = .ok (.iadd, 1) := dc_96 (byA eNcL_law (p := 881) (v := 96) (by decide +kernel))
theorem dL_law_882 : decode cL_law 882 = .ok (.iaload, 1) := dc_46 (byA eNcL_law (p := 882) (v := 46) (by decide +kernel))
theorem dL_law_883 : decode cL_law 883 = .ok (.invokevirtual 95, 3) := dc_182 (byA eNcL_law (p := 883) (v := 182) (by decide +kernel)) (byA eNcL_law (p := 884) (v := 0) (by decide +kernel)) (byA eNcL_law (p := 885) (v := 95) (by decide +kernel)) rfl
theorem dL_law_886 : decode cL_law 886 = .ok (.pop, 1) := dc_87 (byA eNcL_law (p := 886) (v := 87) (by decide +kernel))
theorem dL_law_887 : decode cL_law 887 = .ok (.aload_n 2, 1) := dc_44 (byA eNcL_law (p := 887) (v := 44) (by decide +kernel))
theorem dL_law_888 : decode cL_law 888 = .ok (.aload_n 0, 1) := dc_42 (byA eNcL_law (p := 888) (v := 42) (by decide +kernel))
theorem dL_law_889 : decode cL_law 889 = .ok (.iload 4, 2) := dc_21 (byA eNcL_law (p := 889) (v := 21) (by decide +kernel)) (byA eNcL_law (p := 890) (v := 4) (by decide +kernel))
theorem dL_law_891 : decode cL_law 891 = .ok (.iconst 1, 1) := dc_4 (byA eNcL_law (p := 891) (v := 4) (by decide +kernel))
theorem dL_law_892 : decode cL_law 892 = .ok (.iadd, 1) := dc_96 (byA eNcL_law (p := 892) (v := 96) (by decide +kernel))
theorem dL_law_893 : decode cL_law 893 = .ok (.iaload, 1) := dc_46 (byA eNcL_law (p := 893) (v := 46) (by decide +kernel))
theorem dL_law_894 : decode cL_law 894 = .ok (.invokevirtual 98, 3) := dc_182 (byA eNcL_law (p := 894) (v := 182) (by decide +kernel)) (byA eNcL_law (p := 895) (v := 0) (by decide +kernel)) (byA eNcL_law (p := 896) (v := 98) (by decide +kernel)) rfl
theorem dL_law_897 : decode cL_law 897 = .ok (.pop, 1) := dc_87 (byA eNcL_law (p := 897) (v := 87) (by decide +kernel))
theorem dL_law_898 : decode cL_law 898 = .ok (.goto 683, 3) := dc_167 (byA eNcL_law (p := 898) (v := 167) (by decide +kernel)) (byA eNcL_law (p := 899) (v := 2) (by decide +kernel)) (byA eNcL_law (p := 900) (v := 171) (by decide +kernel)) (by decide +kernel)
theorem dL_law_901 : decode cL_law 901 = .ok (.aload_n 1, 1) := dc_43 (byA eNcL_law (p := 901) (v := 43) (by decide +kernel))
theorem dL_law_902 : decode cL_law 902 = .ok (.aload_n 0, 1) := dc_42 (byA eNcL_law (p := 902) (v := 42) (by decide +kernel))
theorem dL_law_903 : decode cL_law 903 = .ok (.iload 4, 2) := dc_21 (byA eNcL_law (p := 903) (v := 21) (by decide +kernel)) (byA eNcL_law (p := 904) (v := 4) (by decide +kernel))
theorem dL_law_905 : decode cL_law 905 = .ok (.iconst 1, 1) := dc_4 (byA eNcL_law (p := 905) (v := 4) (by decide +kernel))
theorem dL_law_906 : decode cL_law 906 = .ok (.iadd, 1) := dc_96 (byA eNcL_law (p := 906) (v := 96) (by decide +kernel))
theorem dL_law_907 : decode cL_law 907 = .ok (.iaload, 1) := dc_46 (byA eNcL_law (p := 907) (v := 46) (by decide +kernel))
theorem dL_law_908 : decode cL_law 908 = .ok (.invokevirtual 99, 3) := dc_182 (byA eNcL_law (p := 908) (v := 182) (by decide +kernel)) (byA eNcL_law (p := 909) (v := 0) (by decide +kernel)) (byA eNcL_law (p := 910) (v := 99) (by decide +kernel)) rfl
theorem dL_law_911 : decode cL_law 911 = .ok (.pop, 1) := dc_87 (byA eNcL_law (p := 911) (v := 87) (by decide +kernel))
theorem dL_law_912 : decode cL_law 912 = .ok (.aload_n 2, 1) := dc_44 (byA eNcL_law (p := 912) (v := 44) (by decide +kernel))
theorem dL_law_913 : decode cL_law 913 = .ok (.aload_n 0, 1) := dc_42 (byA eNcL_law (p := 913) (v := 42) (by decide +kernel))
theorem dL_law_914 : decode cL_law 914 = .ok (.iload 4, 2) := dc_21 (byA eNcL_law (p := 914) (v := 21) (by decide +kernel)) (byA eNcL_law (p := 915) (v := 4) (by decide +kernel))
theorem dL_law_916 : decode cL_law 916 = .ok (.iconst 1, 1) := dc_4 (byA eNcL_law (p := 916) (v := 4) (by decide +kernel))
theorem dL_law_917 : decode cL_law 917 = .ok (.iadd, 1) := dc_96 (byA eNcL_law (p := 917) (v := 96) (by decide +kernel))
theorem dL_law_918 : decode cL_law 918 = .ok (.iaload, 1) := dc_46 (byA eNcL_law (p := 918) (v := 46) (by decide +kernel))
theorem dL_law_919 : decode cL_law 919 = .ok (.invokevirtual 102, 3) := dc_182 (byA eNcL_law (p := 919) (v := 182) (by decide +kernel)) (byA eNcL_law (p := 920) (v := 0) (by decide +kernel)) (byA eNcL_law (p := 921) (v := 102) (by decide +kernel)) rfl
theorem dL_law_922 : decode cL_law 922 = .ok (.pop, 1) := dc_87 (byA eNcL_law (p := 922) (v := 87) (by decide +kernel))
theorem dL_law_923 : decode cL_law 923 = .ok (.goto 658, 3) := dc_167 (byA eNcL_law (p := 923) (v := 167) (by decide +kernel)) (byA eNcL_law (p := 924) (v := 2) (by decide +kernel)) (byA eNcL_law (p := 925) (v := 146) (by decide +kernel)) (by decide +kernel)
theorem dL_law_926 : decode cL_law 926 = .ok (.aload_n 1, 1) := dc_43 (byA eNcL_law (p := 926) (v := 43) (by decide +kernel))
theorem dL_law_927 : decode cL_law 927 = .ok (.invokevirtual 103, 3) := dc_182 (byA eNcL_law (p := 927) (v := 182) (by decide +kernel)) (byA eNcL_law (p := 928) (v := 0) (by decide +kernel)) (byA eNcL_law (p := 929) (v := 103) (by decide +kernel)) rfl
theorem dL_law_930 : decode cL_law 930 = .ok (.pop, 1) := dc_87 (byA eNcL_law (p := 930) (v := 87) (by decide +kernel))
theorem dL_law_931 : decode cL_law 931 = .ok (.aload_n 2, 1) := dc_44 (byA eNcL_law (p := 931) (v := 44) (by decide +kernel))
theorem dL_law_932 : decode cL_law 932 = .ok (.invokevirtual 107, 3) := dc_182 (byA eNcL_law (p := 932) (v := 182) (by decide +kernel)) (byA eNcL_law (p := 933) (v := 0) (by decide +kernel)) (byA eNcL_law (p := 934) (v := 107) (by decide +kernel)) rfl
theorem dL_law_935 : decode cL_law 935 = .ok (.pop, 1) := dc_87 (byA eNcL_law (p := 935) (v := 87) (by decide +kernel))
theorem dL_law_936 : decode cL_law 936 = .ok (.goto 645, 3) := dc_167 (byA eNcL_law (p := 936) (v := 167) (by decide +kernel)) (byA eNcL_law (p := 937) (v := 2) (by decide +kernel)) (byA eNcL_law (p := 938) (v := 133) (by decide +kernel)) (by decide +kernel)
theorem dL_law_939 : decode cL_law 939 = .ok (.aload_n 1, 1) := dc_43 (byA eNcL_law (p := 939) (v := 43) (by decide +kernel))
theorem dL_law_940 : decode cL_law 940 = .ok (.aload_n 0, 1) := dc_42 (byA eNcL_law (p := 940) (v := 42) (by decide +kernel))
theorem dL_law_941 : decode cL_law 941 = .ok (.iload 4, 2) := dc_21 (byA eNcL_law (p := 941) (v := 21) (by decide +kernel)) (byA eNcL_law (p := 942) (v := 4) (by decide +kernel))
theorem dL_law_943 : decode cL_law 943 = .ok (.iconst 1, 1) := dc_4 (byA eNcL_law (p := 943) (v := 4) (by decide +kernel))
theorem dL_law_944 : decode cL_law 944 = .ok (.iadd, 1) := dc_96 (byA eNcL_law (p := 944) (v := 96) (by decide +kernel))
theorem dL_law_945 : decode cL_law 945 = .ok (.iaload, 1) := dc_46 (byA eNcL_law (p := 945) (v := 46) (by decide +kernel))
theorem dL_law_946 : decode cL_law 946 = .ok (.aload_n 0, 1) := dc_42 (byA eNcL_law (p := 946) (v := 42) (by decide +kernel))
theorem dL_law_947 : decode cL_law 947 = .ok (.iload 4, 2) := dc_21 (byA eNcL_law (p := 947) (v := 21) (by decide +kernel)) (byA eNcL_law (p := 948) (v := 4) (by decide +kernel))
theorem dL_law_949 : decode cL_law 949 = .ok (.iconst 2, 1) := dc_5 (byA eNcL_law (p := 949) (v := 5) (by decide +kernel))
theorem dL_law_950 : decode cL_law 950 = .ok (.iadd, 1) := dc_96 (byA eNcL_law (p := 950) (v := 96) (by decide +kernel))
theorem dL_law_951 : decode cL_law 951 = .ok (.iaload, 1) := dc_46 (byA eNcL_law (p := 951) (v := 46) (by decide +kernel))
theorem dL_law_952 : decode cL_law 952 = .ok (.invokevirtual 108, 3) := dc_182 (byA eNcL_law (p := 952) (v := 182) (by decide +kernel)) (byA eNcL_law (p := 953) (v := 0) (by decide +kernel)) (byA eNcL_law (p := 954) (v := 108) (by decide +kernel)) rfl
theorem dL_law_955 : decode cL_law 955 = .ok (.pop, 1) := dc_87 (byA eNcL_law (p := 955) (v := 87) (by decide +kernel))
theorem dL_law_956 : decode cL_law 956 = .ok (.aload_n 2, 1) := dc_44 (byA eNcL_law (p := 956) (v := 44) (by decide +kernel))
theorem dL_law_957 : decode cL_law 957 = .ok (.aload_n 0, 1) := dc_42 (byA eNcL_law (p := 957) (v := 42) (by decide +kernel))
theorem dL_law_958 : decode cL_law 958 = .ok (.iload 4, 2) := dc_21 (byA eNcL_law (p := 958) (v := 21) (by decide +kernel)) (byA eNcL_law (p := 959) (v := 4) (by decide +kernel))
theorem dL_law_960 : decode cL_law 960 = .ok (.iconst 1, 1) := dc_4 (byA eNcL_law (p := 960) (v := 4) (by decide +kernel))
theorem dL_law_961 : decode cL_law 961 = .ok (.iadd, 1) := dc_96 (byA eNcL_law (p := 961) (v := 96) (by decide +kernel))
theorem dL_law_962 : decode cL_law 962 = .ok (.iaload, 1) := dc_46 (byA eNcL_law (p := 962) (v := 46) (by decide +kernel))
theorem dL_law_963 : decode cL_law 963 = .ok (.aload_n 0, 1) := dc_42 (byA eNcL_law (p := 963) (v := 42) (by decide +kernel))
theorem dL_law_964 : decode cL_law 964 = .ok (.iload 4, 2) := dc_21 (byA eNcL_law (p := 964) (v := 21) (by decide +kernel)) (byA eNcL_law (p := 965) (v := 4) (by decide +kernel))
theorem dL_law_966 : decode cL_law 966 = .ok (.iconst 2, 1) := dc_5 (byA eNcL_law (p := 966) (v := 5) (by decide +kernel))
theorem dL_law_967 : decode cL_law 967 = .ok (.iadd, 1) := dc_96 (byA eNcL_law (p := 967) (v := 96) (by decide +kernel))
theorem dL_law_968 : decode cL_law 968 = .ok (.iaload, 1) := dc_46 (byA eNcL_law (p := 968) (v := 46) (by decide +kernel))
theorem dL_law_969 : decode cL_law 969 = .ok (.invokevirtual 111, 3) := dc_182 (byA eNcL_law (p := 969) (v := 182) (by decide +kernel)) (byA eNcL_law (p := 970) (v := 0) (by decide +kernel)) (byA eNcL_law (p := 971) (v := 111) (by decide +kernel)) rfl
theorem dL_law_972 : decode cL_law 972 = .ok (.pop, 1) := dc_87 (byA eNcL_law (p := 972) (v := 87) (by decide +kernel))
theorem dL_law_973 : decode cL_law 973 = .ok (.goto 608, 3) := dc_167 (byA eNcL_law (p := 973) (v := 167) (by decide +kernel)) (byA eNcL_law (p := 974) (v := 2) (by decide +kernel)) (byA eNcL_law (p := 975) (v := 96) (by decide +kernel)) (by decide +kernel)
theorem dL_law_976 : decode cL_law 976 = .ok (.aload_n 1, 1) := dc_43 (byA eNcL_law (p := 976) (v := 43) (by decide +kernel))
theorem dL_law_977 : decode cL_law 977 = .ok (.aload_n 0, 1) := dc_42 (byA eNcL_law (p := 977) (v := 42) (by decide +kernel))
theorem dL_law_978 : decode cL_law 978 = .ok (.iload 4, 2) := dc_21 (byA eNcL_law (p := 978) (v := 21) (by decide +kernel)) (byA eNcL_law (p := 979) (v := 4) (by decide +kernel))
theorem dL_law_980 : decode cL_law 980 = .ok (.iconst 1, 1) := dc_4 (byA eNcL_law (p := 980) (v := 4) (by decide +kernel))
theorem dL_law_981 : decode cL_law 981 = .ok (.iadd, 1) := dc_96 (byA eNcL_law (p := 981) (v := 96) (by decide +kernel))
theorem dL_law_982 : decode cL_law 982 = .ok (.iaload, 1) := dc_46 (byA eNcL_law (p := 982) (v := 46) (by decide +kernel))
theorem dL_law_983 : decode cL_law 983 = .ok (.aload_n 0, 1) := dc_42 (byA eNcL_law (p := 983) (v := 42) (by decide +kernel))
theorem dL_law_984 : decode cL_law 984 = .ok (.iload 4, 2) := dc_21 (byA eNcL_law (p := 984) (v := 21) (by decide +kernel)) (byA eNcL_law (p := 985) (v := 4) (by decide +kernel))
theorem dL_law_986 : decode cL_law 986 = .ok (.iconst 2, 1) := dc_5 (byA eNcL_law (p := 986) (v := 5) (by decide +kernel))
theorem dL_law_987 : decode cL_law 987 = .ok (.iadd, 1) := dc_96 (byA eNcL_law (p := 987) (v := 96) (by decide +kernel))
theorem dL_law_988 : decode cL_law 988 = .ok (.iaload, 1) := dc_46 (byA eNcL_law (p := 988) (v := 46) (by decide +kernel))
theorem dL_law_989 : decode cL_law 989 = .ok (.invokevirtual 112, 3) := dc_182 (byA eNcL_law (p := 989) (v := 182) (by decide +kernel)) (byA eNcL_law (p := 990) (v := 0) (by decide +kernel)) (byA eNcL_law (p := 991) (v := 112) (by decide +kernel)) rfl
theorem dL_law_992 : decode cL_law 992 = .ok (.pop, 1) := dc_87 (byA eNcL_law (p := 992) (v := 87) (by decide +kernel))
theorem dL_law_993 : decode cL_law 993 = .ok (.aload_n 2, 1) := dc_44 (byA eNcL_law (p := 993) (v := 44) (by decide +kernel))
theorem dL_law_994 : decode cL_law 994 = .ok (.aload_n 0, 1) := dc_42 (byA eNcL_law (p := 994) (v := 42) (by decide +kernel))
theorem dL_law_995 : decode cL_law 995 = .ok (.iload 4, 2) := dc_21 (byA eNcL_law (p := 995) (v := 21) (by decide +kernel)) (byA eNcL_law (p := 996) (v := 4) (by decide +kernel))
theorem dL_law_997 : decode cL_law 997 = .ok (.iconst 1, 1) := dc_4 (byA eNcL_law (p := 997) (v := 4) (by decide +kernel))
theorem dL_law_998 : decode cL_law 998 = .ok (.iadd, 1) := dc_96 (byA eNcL_law (p := 998) (v := 96) (by decide +kernel))
theorem dL_law_999 : decode cL_law 999 = .ok (.iaload, 1) := dc_46 (byA eNcL_law (p := 999) (v := 46) (by decide +kernel))
theorem dL_law_1000 : decode cL_law 1000 = .ok (.aload_n 0, 1) := dc_42 (byA eNcL_law (p := 1000) (v := 42) (by decide +kernel))
theorem dL_law_1001 : decode cL_law 1001 = .ok (.iload 4, 2) := dc_21 (byA eNcL_law (p := 1001) (v := 21) (by decide +kernel)) (byA eNcL_law (p := 1002) (v := 4) (by decide +kernel))
theorem dL_law_1003 : decode cL_law 1003 = .ok (.iconst 2, 1) := dc_5 (byA eNcL_law (p := 1003) (v := 5) (by decide +kernel))
theorem dL_law_1004 : decode cL_law 1004 = .ok (.iadd, 1) := dc_96 (byA eNcL_law (p := 1004) (v := 96) (by decide +kernel))
theorem dL_law_1005 : decode cL_law 1005 = .ok (.iaload, 1) := dc_46 (byA eNcL_law (p := 1005) (v := 46) (by decide +kernel))
theorem dL_law_1006 : decode cL_law 1006 = .ok (.invokevirtual 115, 3) := dc_182 (byA eNcL_law (p := 1006) (v := 182) (by decide +kernel)) (byA eNcL_law (p := 1007) (v := 0) (by decide +kernel)) (byA eNcL_law (p := 1008) (v := 115) (by decide +kernel)) rfl
theorem dL_law_1009 : decode cL_law 1009 = .ok (.pop, 1) := dc_87 (byA eNcL_law (p := 1009) (v := 87) (by decide +kernel))
theorem dL_law_1010 : decode cL_law 1010 = .ok (.goto 571, 3) := dc_167 (byA eNcL_law (p := 1010) (v := 167) (by decide +kernel)) (byA eNcL_law (p := 1011) (v := 2) (by decide +kernel)) (byA eNcL_law (p := 1012) (v := 59) (by decide +kernel)) (by decide +kernel)
theorem dL_law_1013 : decode cL_law 1013 = .ok (.aload_n 1, 1) := dc_43 (byA eNcL_law (p := 1013) (v := 43) (by decide +kernel))
theorem dL_law_1014 : decode cL_law 1014 = .ok (.aload_n 0, 1) := dc_42 (byA eNcL_law (p := 1014) (v := 42) (by decide +kernel))
theorem dL_law_1015 : decode cL_law 1015 = .ok (.iload 4, 2) := dc_21 (byA eNcL_law (p := 1015) (v := 21) (by decide +kernel)) (byA eNcL_law (p := 1016) (v := 4) (by decide +kernel))
theorem dL_law_1017 : decode cL_law 1017 = .ok (.iconst 1, 1) := dc_4 (byA eNcL_law (p := 1017) (v := 4) (by decide +kernel))
theorem dL_law_1018 : decode cL_law 1018 = .ok (.iadd, 1) := dc_96 (byA eNcL_law (p := 1018) (v := 96) (by decide +kernel))
theorem dL_law_1019 : decode cL_law 1019 = .ok (.iaload, 1) := dc_46 (byA eNcL_law (p := 1019) (v := 46) (by decide +kernel))
theorem dL_law_1020 : decode cL_law 1020 = .ok (.aload_n 0, 1) := dc_42 (byA eNcL_law (p := 1020) (v := 42) (by decide +kernel))
theorem dL_law_1021 : decode cL_law 1021 = .ok (.iload 4, 2) := dc_21 (byA eNcL_law (p := 1021) (v := 21) (by decide +kernel)) (byA eNcL_law (p := 1022) (v := 4) (by decide +kernel))
theorem dL_law_1023 : decode cL_law 1023 = .ok (.iconst 2, 1) := dc_5 (byA eNcL_law (p := 1023) (v := 5) (by decide +kernel))
theorem dL_law_1024 : decode cL_law 1024 = .ok (.iadd, 1) := dc_96 (byA eNcL_law (p := 1024) (v := 96) (by decide +kernel))
theorem dL_law_1025 : decode cL_law 1025 = .ok (.iaload, 1) := dc_46 (byA eNcL_law (p := 1025) (v := 46) (by decide +kernel))
theorem dL_law_1026 : decode cL_law 1026 = .ok (.aload_n 0, 1) := dc_42 (byA eNcL_law (p := 1026) (v := 42) (by decide +kernel))
theorem dL_law_1027 : decode cL_law 1027 = .ok (.iload 4, 2) := dc_21 (byA eNcL_law (p := 1027) (v := 21) (by decide +kernel)) (byA eNcL_law (p := 1028) (v := 4) (by decide +kernel))
theorem dL_law_1029 : decode cL_law 1029 = .ok (.iconst 3, 1) := dc_6 (byA eNcL_law (p := 1029) (v := 6) (by decide +kernel))
theorem dL_law_1030 : decode cL_law 1030 = .ok (.iadd, 1) := dc_96 (byA eNcL_law (p := 1030) (v := 96) (by decide +kernel))
theorem dL_law_1031 : decode cL_law 1031 = .ok (.iaload, 1) := dc_46 (byA eNcL_law (p := 1031) (v := 46) (by decide +kernel))
theorem dL_law_1032 : decode cL_law 1032 = .ok (.invokevirtual 116, 3) := dc_182 (byA eNcL_law (p := 1032) (v := 182) (by decide +kernel)) (byA eNcL_law (p := 1033) (v := 0) (by decide +kernel)) (byA eNcL_law (p := 1034) (v := 116) (by decide +kernel)) rfl
theorem dL_law_1035 : decode cL_law 1035 = .ok (.pop, 1) := dc_87 (byA eNcL_law (p := 1035) (v := 87) (by decide +kernel))
theorem dL_law_1036 : decode cL_law 1036 = .ok (.aload_n 2, 1) := dc_44 (byA eNcL_law (p := 1036) (v := 44) (by decide +kernel))
theorem dL_law_1037 : decode cL_law 1037 = .ok (.aload_n 0, 1) := dc_42 (byA eNcL_law (p := 1037) (v := 42) (by decide +kernel))
theorem dL_law_1038 : decode cL_law 1038 = .ok (.iload 4, 2) := dc_21 (byA eNcL_law (p := 1038) (v := 21) (by decide +kernel)) (byA eNcL_law (p := 1039) (v := 4) (by decide +kernel))
theorem dL_law_1040 : decode cL_law 1040 = .ok (.iconst 1, 1) := dc_4 (byA eNcL_law (p := 1040) (v := 4) (by decide +kernel))
theorem dL_law_1041 : decode cL_law 1041 = .ok (.iadd, 1) := dc_96 (byA eNcL_law (p := 1041) (v := 96) (by decide +kernel))
theorem dL_law_1042 : decode cL_law 1042 = .ok (.iaload, 1) := dc_46 (byA eNcL_law (p := 1042) (v := 46) (by decide +kernel))
theorem dL_law_1043 : decode cL_law 1043 = .ok (.aload_n 0, 1) := dc_42 (byA eNcL_law (p := 1043) (v := 42) (by decide +kernel))
theorem dL_law_1044 : decode cL_law 1044 = .ok (.iload 4, 2) := dc_21 (byA eNcL_law (p := 1044) (v := 21) (by decide +kernel)) (byA eNcL_law (p := 1045) (v := 4) (by decide +kernel))
theorem dL_law_1046 : decode cL_law 1046 = .ok (.iconst 2, 1) := dc_5 (byA eNcL_law (p := 1046) (v := 5) (by decide +kernel))
theorem dL_law_1047 : decode cL_law 1047 = .ok (.iadd, 1) := dc_96 (byA eNcL_law (p := 1047) (v := 96) (by decide +kernel))
theorem dL_law_1048 : decode cL_law 1048 = .ok (.iaload, 1) := dc_46 (byA eNcL_law (p := 1048) (v := 46) (by decide +kernel))
theorem dL_law_1049 : decode cL_law 1049 = .ok (.aload_n 0, 1) := dc_42 (byA eNcL_law (p := 1049) (v := 42) (by decide +kernel))
theorem dL_law_1050 : decode cL_law 1050 = .ok (.iload 4, 2) := dc_21 (byA eNcL_law (p := 1050) (v := 21) (by decide +kernel)) (byA eNcL_law (p := 1051) (v := 4) (by decide +kernel))
theorem dL_law_1052 : decode cL_law 1052 = .ok (.iconst 3, 1) := dc_6 (byA eNcL_law (p := 1052) (v := 6) (by decide +kernel))
theorem dL_law_1053 : decode cL_law 1053 = .ok (.iadd, 1) := dc_96 (byA eNcL_law (p := 1053) (v := 96) (by decide +kernel))
theorem dL_law_1054 : decode cL_law 1054 = .ok (.iaload, 1) := dc_46 (byA eNcL_law (p := 1054) (v := 46) (by decide +kernel))
theorem dL_law_1055 : decode cL_law 1055 = .ok (.invokevirtual 119, 3) := dc_182 (byA eNcL_law (p := 1055) (v := 182) (by decide +kernel)) (byA eNcL_law (p := 1056) (v := 0) (by decide +kernel)) (byA eNcL_law (p := 1057) (v := 119) (by decide +kernel)) rfl
theorem dL_law_1058 : decode cL_law 1058 = .ok (.pop, 1) := dc_87 (byA eNcL_law (p := 1058) (v := 87) (by decide +kernel))
theorem dL_law_1059 : decode cL_law 1059 = .ok (.goto 522, 3) := dc_167 (byA eNcL_law (p := 1059) (v := 167) (by decide +kernel)) (byA eNcL_law (p := 1060) (v := 2) (by decide +kernel)) (byA eNcL_law (p := 1061) (v := 10) (by decide +kernel)) (by decide +kernel)
theorem dL_law_1062 : decode cL_law 1062 = .ok (.aload_n 1, 1) := dc_43 (byA eNcL_law (p := 1062) (v := 43) (by decide +kernel))
theorem dL_law_1063 : decode cL_law 1063 = .ok (.aload_n 0, 1) := dc_42 (byA eNcL_law (p := 1063) (v := 42) (by decide +kernel))
theorem dL_law_1064 : decode cL_law 1064 = .ok (.iload 4, 2) := dc_21 (byA eNcL_law (p := 1064) (v := 21) (by decide +kernel)) (byA eNcL_law (p := 1065) (v := 4) (by decide +kernel))
theorem dL_law_1066 : decode cL_law 1066 = .ok (.iconst 1, 1) := dc_4 (byA eNcL_law (p := 1066) (v := 4) (by decide +kernel))
theorem dL_law_1067 : decode cL_law 1067 = .ok (.iadd, 1) := dc_96 (byA eNcL_law (p := 1067) (v := 96) (by decide +kernel))
theorem dL_law_1068 : decode cL_law 1068 = .ok (.iaload, 1) := dc_46 (byA eNcL_law (p := 1068) (v := 46) (by decide +kernel))
theorem dL_law_1069 : decode cL_law 1069 = .ok (.aload_n 0, 1) := dc_42 (byA eNcL_law (p := 1069) (v := 42) (by decide +kernel))
theorem dL_law_1070 : decode cL_law 1070 = .ok (.iload 4, 2) := dc_21 (byA eNcL_law (p := 1070) (v := 21) (by decide +kernel)) (byA eNcL_law (p := 1071) (v := 4) (by decide +kernel))
theorem dL_law_1072 : decode cL_law 1072 = .ok (.iconst 2, 1) := dc_5 (byA eNcL_law (p := 1072) (v := 5) (by decide +kernel))
theorem dL_law_1073 : decode cL_law 1073 = .ok (.iadd, 1) := dc_96 (byA eNcL_law (p := 1073) (v := 96) (by decide +kernel))
theorem dL_law_1074 : decode cL_law 1074 = .ok (.iaload, 1) := dc_46 (byA eNcL_law (p := 1074) (v := 46) (by decide +kernel))
theorem dL_law_1075 : decode cL_law 1075 = .ok (.aload_n 0, 1) := dc_42 (byA eNcL_law (p := 1075) (v := 42) (by decide +kernel))
theorem dL_law_1076 : decode cL_law 1076 = .ok (.iload 4, 2) := dc_21 (byA eNcL_law (p := 1076) (v := 21) (by decide +kernel)) (byA eNcL_law (p := 1077) (v := 4) (by decide +kernel))
theorem dL_law_1078 : decode cL_law 1078 = .ok (.iconst 3, 1) := dc_6 (byA eNcL_law (p := 1078) (v := 6) (by decide +kernel))
theorem dL_law_1079 : decode cL_law 1079 = .ok (.iadd, 1) := dc_96 (byA eNcL_law (p := 1079) (v := 96) (by decide +kernel))
theorem dL_law_1080 : decode cL_law 1080 = .ok (.iaload, 1) := dc_46 (byA eNcL_law (p := 1080) (v := 46) (by decide +kernel))
theorem dL_law_1081 : decode cL_law 1081 = .ok (.invokevirtual 120, 3) := dc_182 (byA eNcL_law (p := 1081) (v := 182) (by decide +kernel)) (byA eNcL_law (p := 1082) (v := 0) (by decide +kernel)) (byA eNcL_law (p := 1083) (v := 120) (by decide +kernel)) rfl
theorem dL_law_1084 : decode cL_law 1084 = .ok (.pop, 1) := dc_87 (byA eNcL_law (p := 1084) (v := 87) (by decide +kernel))
theorem dL_law_1085 : decode cL_law 1085 = .ok (.aload_n 2, 1) := dc_44 (byA eNcL_law (p := 1085) (v := 44) (by decide +kernel))
theorem dL_law_1086 : decode cL_law 1086 = .ok (.aload_n 0, 1) := dc_42 (byA eNcL_law (p := 1086) (v := 42) (by decide +kernel))
theorem dL_law_1087 : decode cL_law 1087 = .ok (.iload 4, 2) := dc_21 (byA eNcL_law (p := 1087) (v := 21) (by decide +kernel)) (byA eNcL_law (p := 1088) (v := 4) (by decide +kernel))
theorem dL_law_1089 : decode cL_law 1089 = .ok (.iconst 1, 1) := dc_4 (byA eNcL_law (p := 1089) (v := 4) (by decide +kernel))
theorem dL_law_1090 : decode cL_law 1090 = .ok (.iadd, 1) := dc_96 (byA eNcL_law (p := 1090) (v := 96) (by decide +kernel))
theorem dL_law_1091 : decode cL_law 1091 = .ok (.iaload, 1) := dc_46 (byA eNcL_law (p := 1091) (v := 46) (by decide +kernel))
theorem dL_law_1092 : decode cL_law 1092 = .ok (.aload_n 0, 1) := dc_42 (byA eNcL_law (p := 1092) (v := 42) (by decide +kernel))
theorem dL_law_1093 : decode cL_law 1093 = .ok (.iload 4, 2) := dc_21 (byA eNcL_law (p := 1093) (v := 21) (by decide +kernel)) (byA eNcL_law (p := 1094) (v := 4) (by decide +kernel))
theorem dL_law_1095 : decode cL_law 1095 = .ok (.iconst 2, 1) := dc_5 (byA eNcL_law (p := 1095) (v := 5) (by decide +kernel))
theorem dL_law_1096 : decode cL_law 1096 = .ok (.iadd, 1) := dc_96 (byA eNcL_law (p := 1096) (v := 96) (by decide +kernel))
theorem dL_law_1097 : decode cL_law 1097 = .ok (.iaload, 1) := dc_46 (byA eNcL_law (p := 1097) (v := 46) (by decide +kernel))
theorem dL_law_1098 : decode cL_law 1098 = .ok (.aload_n 0, 1) := dc_42 (byA eNcL_law (p := 1098) (v := 42) (by decide +kernel))
theorem dL_law_1099 : decode cL_law 1099 = .ok (.iload 4, 2) := dc_21 (byA eNcL_law (p := 1099) (v := 21) (by decide +kernel)) (byA eNcL_law (p := 1100) (v := 4) (by decide +kernel))
theorem dL_law_1101 : decode cL_law 1101 = .ok (.iconst 3, 1) := dc_6 (byA eNcL_law (p := 1101) (v := 6) (by decide +kernel))
theorem dL_law_1102 : decode cL_law 1102 = .ok (.iadd, 1) := dc_96 (byA eNcL_law (p := 1102) (v := 96) (by decide +kernel))
theorem dL_law_1103 : decode cL_law 1103 = .ok (.iaload, 1) := dc_46 (byA eNcL_law (p := 1103) (v := 46) (by decide +kernel))
theorem dL_law_1104 : decode cL_law 1104 = .ok (.invokevirtual 123, 3) := dc_182 (byA eNcL_law (p := 1104) (v := 182) (by decide +kernel)) (byA eNcL_law (p := 1105) (v := 0) (by decide +kernel)) (byA eNcL_law (p := 1106) (v := 123) (by decide +kernel)) rfl
theorem dL_law_1107 : decode cL_law 1107 = .ok (.pop, 1) := dc_87 (byA eNcL_law (p := 1107) (v := 87) (by decide +kernel))
theorem dL_law_1108 : decode cL_law 1108 = .ok (.goto 473, 3) := dc_167 (byA eNcL_law (p := 1108) (v := 167) (by decide +kernel)) (byA eNcL_law (p := 1109) (v := 1) (by decide +kernel)) (byA eNcL_law (p := 1110) (v := 217) (by decide +kernel)) (by decide +kernel)
theorem dL_law_1111 : decode cL_law 1111 = .ok (.aload_n 1, 1) := dc_43 (byA eNcL_law (p := 1111) (v := 43) (by decide +kernel))
theorem dL_law_1112 : decode cL_law 1112 = .ok (.aload_n 0, 1) := dc_42 (byA eNcL_law (p := 1112) (v := 42) (by decide +kernel))
theorem dL_law_1113 : decode cL_law 1113 = .ok (.iload 4, 2) := dc_21 (byA eNcL_law (p := 1113) (v := 21) (by decide +kernel)) (byA eNcL_law (p := 1114) (v := 4) (by decide +kernel))
theorem dL_law_1115 : decode cL_law 1115 = .ok (.iconst 1, 1) := dc_4 (byA eNcL_law (p := 1115) (v := 4) (by decide +kernel))
theorem dL_law_1116 : decode cL_law 1116 = .ok (.iadd, 1) := dc_96 (byA eNcL_law (p := 1116) (v := 96) (by decide +kernel))
theorem dL_law_1117 : decode cL_law 1117 = .ok (.iaload, 1) := dc_46 (byA eNcL_law (p := 1117) (v := 46) (by decide +kernel))
theorem dL_law_1118 : decode cL_law 1118 = .ok (.aload_n 0, 1) := dc_42 (byA eNcL_law (p := 1118) (v := 42) (by decide +kernel))
theorem dL_law_1119 : decode cL_law 1119 = .ok (.iload 4, 2) := dc_21 (byA eNcL_law (p := 1119) (v := 21) (by decide +kernel)) (byA eNcL_law (p := 1120) (v := 4) (by decide +kernel))
theorem dL_law_1121 : decode cL_law 1121 = .ok (.iconst 2, 1) := dc_5 (byA eNcL_law (p := 1121) (v := 5) (by decide +kernel))
theorem dL_law_1122 : decode cL_law 1122 = .ok (.iadd, 1) := dc_96 (byA eNcL_law (p := 1122) (v := 96) (by decide +kernel))
theorem dL_law_1123 : decode cL_law 1123 = .ok (.iaload, 1) := dc_46 (byA eNcL_law (p := 1123) (v := 46) (by decide +kernel))
theorem dL_law_1124 : decode cL_law 1124 = .ok (.aload_n 0, 1) := dc_42 (byA eNcL_law (p := 1124) (v := 42) (by decide +kernel))
theorem dL_law_1125 : decode cL_law 1125 = .ok (.iload 4, 2) := dc_21 (byA eNcL_law (p := 1125) (v := 21) (by decide +kernel)) (byA eNcL_law (p := 1126) (v := 4) (by decide +kernel))
theorem dL_law_1127 : decode cL_law 1127 = .ok (.iconst 3, 1) := dc_6 (byA eNcL_law (p := 1127) (v := 6) (by decide +kernel))
theorem dL_law_1128 : decode cL_law 1128 = .ok (.iadd, 1) := dc_96 (byA eNcL_law (p := 1128) (v := 96) (by decide +kernel))
theorem dL_law_1129 : decode cL_law 1129 = .ok (.iaload, 1) := dc_46 (byA eNcL_law (p := 1129) (v := 46) (by decide +kernel))
theorem dL_law_1130 : decode cL_law 1130 = .ok (.invokevirtual 124, 3) := dc_182 (byA eNcL_law (p := 1130) (v := 182) (by decide +kernel)) (byA eNcL_law (p := 1131) (v := 0) (by decide +kernel)) (byA eNcL_law (p := 1132) (v := 124) (by decide +kernel)) rfl
theorem dL_law_1133 : decode cL_law 1133 = .ok (.pop, 1) := dc_87 (byA eNcL_law (p := 1133) (v := 87) (by decide +kernel))
theorem dL_law_1134 : decode cL_law 1134 = .ok (.aload_n 2, 1) := dc_44 (byA eNcL_law (p := 1134) (v := 44) (by decide +kernel))
theorem dL_law_1135 : decode cL_law 1135 = .ok (.aload_n 0, 1) := dc_42 (byA eNcL_law (p := 1135) (v := 42) (by decide +kernel))
theorem dL_law_1136 : decode cL_law 1136 = .ok (.iload 4, 2) := dc_21 (byA eNcL_law (p := 1136) (v := 21) (by decide +kernel)) (byA eNcL_law (p := 1137) (v := 4) (by decide +kernel))
theorem dL_law_1138 : decode cL_law 1138 = .ok (.iconst 1, 1) := dc_4 (byA eNcL_law (p := 1138) (v := 4) (by decide +kernel))
theorem dL_law_1139 : decode cL_law 1139 = .ok (.iadd, 1) := dc_96 (byA eNcL_law (p := 1139) (v := 96) (by decide +kernel))
theorem dL_law_1140 : decode cL_law 1140 = .ok (.iaload, 1) := dc_46 (byA eNcL_law (p := 1140) (v := 46) (by decide +kernel))
theorem dL_law_1141 : decode cL_law 1141 = .ok (.aload_n 0, 1) := dc_42 (byA eNcL_law (p := 1141) (v := 42) (by decide +kernel))
theorem dL_law_1142 : decode cL_law 1142 = .ok (.iload 4, 2) := dc_21 (byA eNcL_law (p := 1142) (v := 21) (by decide +kernel)) (byA eNcL_law (p := 1143) (v := 4) (by decide +kernel))
theorem dL_law_1144 : decode cL_law 1144 = .ok (.iconst 2, 1) := dc_5 (byA eNcL_law (p := 1144) (v := 5) (by decide +kernel))
theorem dL_law_1145 : decode cL_law 1145 = .ok (.iadd, 1) := dc_96 (byA eNcL_law (p := 1145) (v := 96) (by decide +kernel))
theorem dL_law_1146 : decode cL_law 1146 = .ok (.iaload, 1) := dc_46 (byA eNcL_law (p := 1146) (v := 46) (by decide +kernel))
theorem dL_law_1147 : decode cL_law 1147 = .ok (.aload_n 0, 1) := dc_42 (byA eNcL_law (p := 1147) (v := 42) (by decide +kernel))
theorem dL_law_1148 : decode cL_law 1148 = .ok (.iload 4, 2) := dc_21 (byA eNcL_law (p := 1148) (v := 21) (by decide +kernel)) (byA eNcL_law (p := 1149) (v := 4) (by decide +kernel))
theorem dL_law_1150 : decode cL_law 1150 = .ok (.iconst 3, 1) := dc_6 (byA eNcL_law (p := 1150) (v := 6) (by decide +kernel))
theorem dL_law_1151 : decode cL_law 1151 = .ok (.iadd, 1) := dc_96 (byA eNcL_law (p := 1151) (v := 96) (by decide +kernel))
theorem dL_law_1152 : decode cL_law 1152 = .ok (.iaload, 1) := dc_46 (byA eNcL_law (p := 1152) (v := 46) (by decide +kernel))
theorem dL_law_1153 : decode cL_law 1153 = .ok (.invokevirtual 127, 3) := dc_182 (byA eNcL_law (p := 1153) (v := 182) (by decide +kernel)) (byA eNcL_law (p := 1154) (v := 0) (by decide +kernel)) (byA eNcL_law (p := 1155) (v := 127) (by decide +kernel)) rfl
theorem dL_law_1156 : decode cL_law 1156 = .ok (.pop, 1) := dc_87 (byA eNcL_law (p := 1156) (v := 87) (by decide +kernel))
theorem dL_law_1157 : decode cL_law 1157 = .ok (.goto 424, 3) := dc_167 (byA eNcL_law (p := 1157) (v := 167) (by decide +kernel)) (byA eNcL_law (p := 1158) (v := 1) (by decide +kernel)) (byA eNcL_law (p := 1159) (v := 168) (by decide +kernel)) (by decide +kernel)
theorem dL_law_1160 : decode cL_law 1160 = .ok (.aload_n 1, 1) := dc_43 (byA eNcL_law (p := 1160) (v := 43) (by decide +kernel))
theorem dL_law_1161 : decode cL_law 1161 = .ok (.aload_n 0, 1) := dc_42 (byA eNcL_law (p := 1161) (v := 42) (by decide +kernel))
theorem dL_law_1162 : decode cL_law 1162 = .ok (.iload 4, 2) := dc_21 (byA eNcL_law (p := 1162) (v := 21) (by decide +kernel)) (byA eNcL_law (p := 1163) (v := 4) (by decide +kernel))
theorem dL_law_1164 : decode cL_law 1164 = .ok (.iconst 1, 1) := dc_4 (byA eNcL_law (p := 1164) (v := 4) (by decide +kernel))
theorem dL_law_1165 : decode cL_law 1165 = .ok (.iadd, 1) := dc_96 (byA eNcL_law (p := 1165) (v := 96) (by decide +kernel))
theorem dL_law_1166 : decode cL_law 1166 = .ok (.iaload, 1) := dc_46 (byA eNcL_law (p := 1166) (v := 46) (by decide +kernel))
theorem dL_law_1167 : decode cL_law 1167 = .ok (.aload_n 0, 1) := dc_42 (byA eNcL_law (p := 1167) (v := 42) (by decide +kernel))
theorem dL_law_1168 : decode cL_law 1168 = .ok (.iload 4, 2) := dc_21 (byA eNcL_law (p := 1168) (v := 21) (by decide +kernel)) (byA eNcL_law (p := 1169) (v := 4) (by decide +kernel))
theorem dL_law_1170 : decode cL_law 1170 = .ok (.iconst 2, 1) := dc_5 (byA eNcL_law (p := 1170) (v := 5) (by decide +kernel))
theorem dL_law_1171 : decode cL_law 1171 = .ok (.iadd, 1) := dc_96 (byA eNcL_law (p := 1171) (v := 96) (by decide +kernel))
theorem dL_law_1172 : decode cL_law 1172 = .ok (.iaload, 1) := dc_46 (byA eNcL_law (p := 1172) (v := 46) (by decide +kernel))
theorem dL_law_1173 : decode cL_law 1173 = .ok (.invokevirtual 128, 3) := dc_182 (byA eNcL_law (p := 1173) (v := 182) (by decide +kernel)) (byA eNcL_law (p := 1174) (v := 0) (by decide +kernel)) (byA eNcL_law (p := 1175) (v := 128) (by decide +kernel)) rfl
theorem dL_law_1176 : decode cL_law 1176 = .ok (.pop, 1) := dc_87 (byA eNcL_law (p := 1176) (v := 87) (by decide +kernel))
theorem dL_law_1177 : decode cL_law 1177 = .ok (.aload_n 2, 1) := dc_44 (byA eNcL_law (p := 1177) (v := 44) (by decide +kernel))
theorem dL_law_1178 : decode cL_law 1178 = .ok (.aload_n 0, 1) := dc_42 (byA eNcL_law (p := 1178) (v := 42) (by decide +kernel))
theorem dL_law_1179 : decode cL_law 1179 = .ok (.iload 4, 2) := dc_21 (byA eNcL_law (p := 1179) (v := 21) (by decide +kernel)) (byA eNcL_law (p := 1180) (v := 4) (by decide +kernel))
theorem dL_law_1181 : decode cL_law 1181 = .ok (.iconst 1, 1) := dc_4 (byA eNcL_law (p := 1181) (v := 4) (by decide +kernel))
theorem dL_law_1182 : decode cL_law 1182 = .ok (.iadd, 1) := dc_96 (byA eNcL_law (p := 1182) (v := 96) (by decide +kernel))
theorem dL_law_1183 : decode cL_law 1183 = .ok (.iaload, 1) := dc_46 (byA eNcL_law (p := 1183) (v := 46) (by decide +kernel))
theorem dL_law_1184 : decode cL_law 1184 = .ok (.aload_n 0, 1) := dc_42 (byA eNcL_law (p := 1184) (v := 42) (by decide +kernel))
theorem dL_law_1185 : decode cL_law 1185 = .ok (.iload 4, 2) := dc_21 (byA eNcL_law (p := 1185) (v := 21) (by decide +kernel)) (byA eNcL_law (p := 1186) (v := 4) (by decide +kernel))
theorem dL_law_1187 : decode cL_law 1187 = .ok (.iconst 2, 1) := dc_5 (byA eNcL_law (p := 1187) (v := 5) (by decide +kernel))
theorem dL_law_1188 : decode cL_law 1188 = .ok (.iadd, 1) := dc_96 (byA eNcL_law (p := 1188) (v := 96) (by decide +kernel))
theorem dL_law_1189 : decode cL_law 1189 = .ok (.iaload, 1) := dc_46 (byA eNcL_law (p := 1189) (v := 46) (by decide +kernel))
theorem dL_law_1190 : decode cL_law 1190 = .ok (.invokevirtual 131, 3) := dc_182 (byA eNcL_law (p := 1190) (v := 182) (by decide +kernel)) (byA eNcL_law (p := 1191) (v := 0) (by decide +kernel)) (byA eNcL_law (p := 1192) (v := 131) (by decide +kernel)) rfl
theorem dL_law_1193 : decode cL_law 1193 = .ok (.pop, 1) := dc_87 (byA eNcL_law (p := 1193) (v := 87) (by decide +kernel))
theorem dL_law_1194 : decode cL_law 1194 = .ok (.goto 387, 3) := dc_167 (byA eNcL_law (p := 1194) (v := 167) (by decide +kernel)) (byA eNcL_law (p := 1195) (v := 1) (by decide +kernel)) (byA eNcL_law (p := 1196) (v := 131) (by decide +kernel)) (by decide +kernel)
theorem dL_law_1197 : decode cL_law 1197 = .ok (.aload_n 1, 1) := dc_43 (byA eNcL_law (p := 1197) (v := 43) (by decide +kernel))
theorem dL_law_1198 : decode cL_law 1198 = .ok (.aload_n 0, 1) := dc_42 (byA eNcL_law (p := 1198) (v := 42) (by decide +kernel))
theorem dL_law_1199 : decode cL_law 1199 = .ok (.iload 4, 2) := dc_21 (byA eNcL_law (p := 1199) (v := 21) (by decide +kernel)) (byA eNcL_law (p := 1200) (v := 4) (by decide +kernel))
theorem dL_law_1201 : decode cL_law 1201 = .ok (.iconst 1, 1) := dc_4 (byA eNcL_law (p := 1201) (v := 4) (by decide +kernel))
theorem dL_law_1202 : decode cL_law 1202 = .ok (.iadd, 1) := dc_96 (byA eNcL_law (p := 1202) (v := 96) (by decide +kernel))
theorem dL_law_1203 : decode cL_law 1203 = .ok (.iaload, 1) := dc_46 (byA eNcL_law (p := 1203) (v := 46) (by decide +kernel))
theorem dL_law_1204 : decode cL_law 1204 = .ok (.aload_n 0, 1) := dc_42 (byA eNcL_law (p := 1204) (v := 42) (by decide +kernel))
theorem dL_law_1205 : decode cL_law 1205 = .ok (.iload 4, 2) := dc_21 (byA eNcL_law (p := 1205) (v := 21) (by decide +kernel)) (byA eNcL_law (p := 1206) (v := 4) (by decide +kernel))
theorem dL_law_1207 : decode cL_law 1207 = .ok (.iconst 2, 1) := dc_5 (byA eNcL_law (p := 1207) (v := 5) (by decide +kernel))
theorem dL_law_1208 : decode cL_law 1208 = .ok (.iadd, 1) := dc_96 (byA eNcL_law (p := 1208) (v := 96) (by decide +kernel))
theorem dL_law_1209 : decode cL_law 1209 = .ok (.iaload, 1) := dc_46 (byA eNcL_law (p := 1209) (v := 46) (by decide +kernel))
theorem dL_law_1210 : decode cL_law 1210 = .ok (.invokevirtual 132, 3) := dc_182 (byA eNcL_law (p := 1210) (v := 182) (by decide +kernel)) (byA eNcL_law (p := 1211) (v := 0) (by decide +kernel)) (byA eNcL_law (p := 1212) (v := 132) (by decide +kernel)) rfl
theorem dL_law_1213 : decode cL_law 1213 = .ok (.aload_n 2, 1) := dc_44 (byA eNcL_law (p := 1213) (v := 44) (by decide +kernel))
theorem dL_law_1214 : decode cL_law 1214 = .ok (.aload_n 0, 1) := dc_42 (byA eNcL_law (p := 1214) (v := 42) (by decide +kernel))
theorem dL_law_1215 : decode cL_law 1215 = .ok (.iload 4, 2) := dc_21 (byA eNcL_law (p := 1215) (v := 21) (by decide +kernel)) (byA eNcL_law (p := 1216) (v := 4) (by decide +kernel))
theorem dL_law_1217 : decode cL_law 1217 = .ok (.iconst 1, 1) := dc_4 (byA eNcL_law (p := 1217) (v := 4) (by decide +kernel))
theorem dL_law_1218 : decode cL_law 1218 = .ok (.iadd, 1) := dc_96 (byA eNcL_law (p := 1218) (v := 96) (by decide +kernel))
theorem dL_law_1219 : decode cL_law 1219 = .ok (.iaload, 1) := dc_46 (byA eNcL_law (p := 1219) (v := 46) (by decide +kernel))
theorem dL_law_1220 : decode cL_law 1220 = .ok (.aload_n 0, 1) := dc_42 (byA eNcL_law (p := 1220) (v := 42) (by decide +kernel))
theorem dL_law_1221 : decode cL_law 1221 = .ok (.iload 4, 2) := dc_21 (byA eNcL_law (p := 1221) (v := 21) (by decide +kernel)) (byA eNcL_law (p := 1222) (v := 4) (by decide +kernel))
theorem dL_law_1223 : decode cL_law 1223 = .ok (.iconst 2, 1) := dc_5 (byA eNcL_law (p := 1223) (v := 5) (by decide +kernel))
theorem dL_law_1224 : decode cL_law 1224 = .ok (.iadd, 1) := dc_96 (byA eNcL_law (p := 1224) (v := 96) (by decide +kernel))
theorem dL_law_1225 : decode cL_law 1225 = .ok (.iaload, 1) := dc_46 (byA eNcL_law (p := 1225) (v := 46) (by decide +kernel))
theorem dL_law_1226 : decode cL_law 1226 = .ok (.invokevirtual 135, 3) := dc_182 (byA eNcL_law (p := 1226) (v := 182) (by decide +kernel)) (byA eNcL_law (p := 1227) (v := 0) (by decide +kernel)) (byA eNcL_law (p := 1228) (v := 135) (by decide +kernel)) rfl
theorem dL_law_1229 : decode cL_law 1229 = .ok (.if_icmp .eq 352, 3) := dc_159 (byA eNcL_law (p := 1229) (v := 159) (by decide +kernel)) (byA eNcL_law (p := 1230) (v := 1) (by decide +kernel)) (byA eNcL_law (p := 1231) (v := 96) (by decide +kernel)) (by decide +kernel)
theorem dL_law_1232 : decode cL_law 1232 = .ok (.iconst 0, 1) := dc_3 (byA eNcL_law (p := 1232) (v := 3) (by decide +kernel))
theorem dL_law_1233 : decode cL_law 1233 = .ok (.ireturn, 1) := dc_172 (byA eNcL_law (p := 1233) (v := 172) (by decide +kernel))
theorem dL_law_1234 : decode cL_law 1234 = .ok (.aload_n 1, 1) := dc_43 (byA eNcL_law (p := 1234) (v := 43) (by decide +kernel))
theorem dL_law_1235 : decode cL_law 1235 = .ok (.aload_n 0, 1) := dc_42 (byA eNcL_law (p := 1235) (v := 42) (by decide +kernel))
theorem dL_law_1236 : decode cL_law 1236 = .ok (.iload 4, 2) := dc_21 (byA eNcL_law (p := 1236) (v := 21) (by decide +kernel)) (byA eNcL_law (p := 1237) (v := 4) (by decide +kernel))
theorem dL_law_1238 : decode cL_law 1238 = .ok (.iconst 1, 1) := dc_4 (byA eNcL_law (p := 1238) (v := 4) (by decide +kernel))
theorem dL_law_1239 : decode cL_law 1239 = .ok (.iadd, 1) := dc_96 (byA eNcL_law (p := 1239) (v := 96) (by decide +kernel))
theorem dL_law_1240 : decode cL_law 1240 = .ok (.iaload, 1) := dc_46 (byA eNcL_law (p := 1240) (v := 46) (by decide +kernel))
theorem dL_law_1241 : decode cL_law 1241 = .ok (.aload_n 0, 1) := dc_42 (byA eNcL_law (p := 1241) (v := 42) (by decide +kernel))
theorem dL_law_1242 : decode cL_law 1242 = .ok (.iload 4, 2) := dc_21 (byA eNcL_law (p := 1242) (v := 21) (by decide +kernel)) (byA eNcL_law (p := 1243) (v := 4) (by decide +kernel))
theorem dL_law_1244 : decode cL_law 1244 = .ok (.iconst 2, 1) := dc_5 (byA eNcL_law (p := 1244) (v := 5) (by decide +kernel))
theorem dL_law_1245 : decode cL_law 1245 = .ok (.iadd, 1) := dc_96 (byA eNcL_law (p := 1245) (v := 96) (by decide +kernel))
theorem dL_law_1246 : decode cL_law 1246 = .ok (.iaload, 1) := dc_46 (byA eNcL_law (p := 1246) (v := 46) (by decide +kernel))
theorem dL_law_1247 : decode cL_law 1247 = .ok (.aload_n 0, 1) := dc_42 (byA eNcL_law (p := 1247) (v := 42) (by decide +kernel))
theorem dL_law_1248 : decode cL_law 1248 = .ok (.iload 4, 2) := dc_21 (byA eNcL_law (p := 1248) (v := 21) (by decide +kernel)) (byA eNcL_law (p := 1249) (v := 4) (by decide +kernel))
theorem dL_law_1250 : decode cL_law 1250 = .ok (.iconst 3, 1) := dc_6 (byA eNcL_law (p := 1250) (v := 6) (by decide +kernel))
theorem dL_law_1251 : decode cL_law 1251 = .ok (.iadd, 1) := dc_96 (byA eNcL_law (p := 1251) (v := 96) (by decide +kernel))
theorem dL_law_1252 : decode cL_law 1252 = .ok (.iaload, 1) := dc_46 (byA eNcL_law (p := 1252) (v := 46) (by decide +kernel))
theorem dL_law_1253 : decode cL_law 1253 = .ok (.aload_n 0, 1) := dc_42 (byA eNcL_law (p := 1253) (v := 42) (by decide +kernel))
theorem dL_law_1254 : decode cL_law 1254 = .ok (.iload 4, 2) := dc_21 (byA eNcL_law (p := 1254) (v := 21) (by decide +kernel)) (byA eNcL_law (p := 1255) (v := 4) (by decide +kernel))
theorem dL_law_1256 : decode cL_law 1256 = .ok (.iconst 4, 1) := dc_7 (byA eNcL_law (p := 1256) (v := 7) (by decide +kernel))
theorem dL_law_1257 : decode cL_law 1257 = .ok (.iadd, 1) := dc_96 (byA eNcL_law (p := 1257) (v := 96) (by decide +kernel))
theorem dL_law_1258 : decode cL_law 1258 = .ok (.iaload, 1) := dc_46 (byA eNcL_law (p := 1258) (v := 46) (by decide +kernel))
theorem dL_law_1259 : decode cL_law 1259 = .ok (.invokevirtual 136, 3) := dc_182 (byA eNcL_law (p := 1259) (v := 182) (by decide +kernel)) (byA eNcL_law (p := 1260) (v := 0) (by decide +kernel)) (byA eNcL_law (p := 1261) (v := 136) (by decide +kernel)) rfl
theorem dL_law_1262 : decode cL_law 1262 = .ok (.pop, 1) := dc_87 (byA eNcL_law (p := 1262) (v := 87) (by decide +kernel))
theorem dL_law_1263 : decode cL_law 1263 = .ok (.aload_n 2, 1) := dc_44 (byA eNcL_law (p := 1263) (v := 44) (by decide +kernel))
theorem dL_law_1264 : decode cL_law 1264 = .ok (.aload_n 0, 1) := dc_42 (byA eNcL_law (p := 1264) (v := 42) (by decide +kernel))
theorem dL_law_1265 : decode cL_law 1265 = .ok (.iload 4, 2) := dc_21 (byA eNcL_law (p := 1265) (v := 21) (by decide +kernel)) (byA eNcL_law (p := 1266) (v := 4) (by decide +kernel))
theorem dL_law_1267 : decode cL_law 1267 = .ok (.iconst 1, 1) := dc_4 (byA eNcL_law (p := 1267) (v := 4) (by decide +kernel))
theorem dL_law_1268 : decode cL_law 1268 = .ok (.iadd, 1) := dc_96 (byA eNcL_law (p := 1268) (v := 96) (by decide +kernel))
theorem dL_law_1269 : decode cL_law 1269 = .ok (.iaload, 1) := dc_46 (byA eNcL_law (p := 1269) (v := 46) (by decide +kernel))
theorem dL_law_1270 : decode cL_law 1270 = .ok (.aload_n 0, 1) := dc_42 (byA eNcL_law (p := 1270) (v := 42) (by decide +kernel))
theorem dL_law_1271 : decode cL_law 1271 = .ok (.iload 4, 2) := dc_21 (byA eNcL_law (p := 1271) (v := 21) (by decide +kernel)) (byA eNcL_law (p := 1272) (v := 4) (by decide +kernel))
theorem dL_law_1273 : decode cL_law 1273 = .ok (.iconst 2, 1) := dc_5 (byA eNcL_law (p := 1273) (v := 5) (by decide +kernel))
theorem dL_law_1274 : decode cL_law 1274 = .ok (.iadd, 1) := dc_96 (byA eNcL_law (p := 1274) (v := 96) (by decide +kernel))
theorem dL_law_1275 : decode cL_law 1275 = .ok (.iaload, 1) := dc_46 (byA eNcL_law (p := 1275) (v := 46) (by decide +kernel))
theorem dL_law_1276 : decode cL_law 1276 = .ok (.aload_n 0, 1) := dc_42 (byA eNcL_law (p := 1276) (v := 42) (by decide +kernel))
theorem dL_law_1277 : decode cL_law 1277 = .ok (.iload 4, 2) := dc_21 (byA eNcL_law (p := 1277) (v := 21) (by decide +kernel)) (byA eNcL_law (p := 1278) (v := 4) (by decide +kernel))
theorem dL_law_1279 : decode cL_law 1279 = .ok (.iconst 3, 1) := dc_6 (byA eNcL_law (p := 1279) (v := 6) (by decide +kernel))
theorem dL_law_1280 : decode cL_law 1280 = .ok (.iadd, 1) := dc_96 (byA eNcL_law (p := 1280) (v := 96) (by decide +kernel))
theorem dL_law_1281 : decode cL_law 1281 = .ok (.iaload, 1) := dc_46 (byA eNcL_law (p := 1281) (v := 46) (by decide +kernel))
theorem dL_law_1282 : decode cL_law 1282 = .ok (.aload_n 0, 1) := dc_42 (byA eNcL_law (p := 1282) (v := 42) (by decide +kernel))
theorem dL_law_1283 : decode cL_law 1283 = .ok (.iload 4, 2) := dc_21 (byA eNcL_law (p := 1283) (v := 21) (by decide +kernel)) (byA eNcL_law (p := 1284) (v := 4) (by decide +kernel))
theorem dL_law_1285 : decode cL_law 1285 = .ok (.iconst 4, 1) := dc_7 (byA eNcL_law (p := 1285) (v := 7) (by decide +kernel))
theorem dL_law_1286 : decode cL_law 1286 = .ok (.iadd, 1) := dc_96 (byA eNcL_law (p := 1286) (v := 96) (by decide +kernel))
theorem dL_law_1287 : decode cL_law 1287 = .ok (.iaload, 1) := dc_46 (byA eNcL_law (p := 1287) (v := 46) (by decide +kernel))
theorem dL_law_1288 : decode cL_law 1288 = .ok (.invokevirtual 139, 3) := dc_182 (byA eNcL_law (p := 1288) (v := 182) (by decide +kernel)) (byA eNcL_law (p := 1289) (v := 0) (by decide +kernel)) (byA eNcL_law (p := 1290) (v := 139) (by decide +kernel)) rfl
theorem dL_law_1291 : decode cL_law 1291 = .ok (.pop, 1) := dc_87 (byA eNcL_law (p := 1291) (v := 87) (by decide +kernel))
theorem dL_law_1292 : decode cL_law 1292 = .ok (.goto 289, 3) := dc_167 (byA eNcL_law (p := 1292) (v := 167) (by decide +kernel)) (byA eNcL_law (p := 1293) (v := 1) (by decide +kernel)) (byA eNcL_law (p := 1294) (v := 33) (by decide +kernel)) (by decide +kernel)
theorem dL_law_1295 : decode cL_law 1295 = .ok (.aload_n 1, 1) := dc_43 (byA eNcL_law (p := 1295) (v := 43) (by decide +kernel))
theorem dL_law_1296 : decode cL_law 1296 = .ok (.aload_n 0, 1) := dc_42 (byA eNcL_law (p := 1296) (v := 42) (by decide +kernel))
theorem dL_law_1297 : decode cL_law 1297 = .ok (.iload 4, 2) := dc_21 (byA eNcL_law (p := 1297) (v := 21) (by decide +kernel)) (byA eNcL_law (p := 1298) (v := 4) (by decide +kernel))
theorem dL_law_1299 : decode cL_law 1299 = .ok (.iconst 1, 1) := dc_4 (byA eNcL_law (p := 1299) (v := 4) (by decide +kernel))
theorem dL_law_1300 : decode cL_law 1300 = .ok (.iadd, 1) := dc_96 (byA eNcL_law (p := 1300) (v := 96) (by decide +kernel))
theorem dL_law_1301 : decode cL_law 1301 = .ok (.iaload, 1) := dc_46 (byA eNcL_law (p := 1301) (v := 46) (by decide +kernel))
theorem dL_law_1302 : decode cL_law 1302 = .ok (.invokevirtual 140, 3) := dc_182 (byA eNcL_law (p := 1302) (v := 182) (by decide +kernel)) (byA eNcL_law (p := 1303) (v := 0) (by decide +kernel)) (byA eNcL_law (p := 1304) (v := 140) (by decide +kernel)) rfl
theorem dL_law_1305 : decode cL_law 1305 = .ok (.pop, 1) := dc_87 (byA eNcL_law (p := 1305) (v := 87) (by decide +kernel))
theorem dL_law_1306 : decode cL_law 1306 = .ok (.aload_n 2, 1) := dc_44 (byA eNcL_law (p := 1306) (v := 44) (by decide +kernel))
theorem dL_law_1307 : decode cL_law 1307 = .ok (.aload_n 0, 1) := dc_42 (byA eNcL_law (p := 1307) (v := 42) (by decide +kernel))
theorem dL_law_1308 : decode cL_law 1308 = .ok (.iload 4, 2) := dc_21 (byA eNcL_law (p := 1308) (v := 21) (by decide +kernel)) (byA eNcL_law (p := 1309) (v := 4) (by decide +kernel))
theorem dL_law_1310 : decode cL_law 1310 = .ok (.iconst 1, 1) := dc_4 (byA eNcL_law (p := 1310) (v := 4) (by decide +kernel))
theorem dL_law_1311 : decode cL_law 1311 = .ok (.iadd, 1) := dc_96 (byA eNcL_law (p := 1311) (v := 96) (by decide +kernel))
theorem dL_law_1312 : decode cL_law 1312 = .ok (.iaload, 1) := dc_46 (byA eNcL_law (p := 1312) (v := 46) (by decide +kernel))
theorem dL_law_1313 : decode cL_law 1313 = .ok (.invokevirtual 143, 3) := dc_182 (byA eNcL_law (p := 1313) (v := 182) (by decide +kernel)) (byA eNcL_law (p := 1314) (v := 0) (by decide +kernel)) (byA eNcL_law (p := 1315) (v := 143) (by decide +kernel)) rfl
theorem dL_law_1316 : decode cL_law 1316 = .ok (.pop, 1) := dc_87 (byA eNcL_law (p := 1316) (v := 87) (by decide +kernel))
theorem dL_law_1317 : decode cL_law 1317 = .ok (.goto 264, 3) := dc_167 (byA eNcL_law (p := 1317) (v := 167) (by decide +kernel)) (byA eNcL_law (p := 1318) (v := 1) (by decide +kernel)) (byA eNcL_law (p := 1319) (v := 8) (by decide +kernel)) (by decide +kernel)
theorem dL_law_1320 : decode cL_law 1320 = .ok (.aload_n 1, 1) := dc_43 (byA eNcL_law (p := 1320) (v := 43) (by decide +kernel))
theorem dL_law_1321 : decode cL_law 1321 = .ok (.aload_n 0, 1) := dc_42 (byA eNcL_law (p := 1321) (v := 42) (by decide +kernel))
theorem dL_law_1322 : decode cL_law 1322 = .ok (.iload 4, 2) := dc_21 (byA eNcL_law (p := 1322) (v := 21) (by decide +kernel)) (byA eNcL_law (p := 1323) (v := 4) (by decide +kernel))
theorem dL_law_1324 : decode cL_law 1324 = .ok (.iconst 1, 1) := dc_4 (byA eNcL_law (p := 1324) (v := 4) (by decide +kernel))
theorem dL_law_1325 : decode cL_law 1325 = .ok (.iadd, 1) := dc_96 (byA eNcL_law (p := 1325) (v := 96) (by decide +kernel))
theorem dL_law_1326 : decode cL_law 1326 = .ok (.iaload, 1) := dc_46 (byA eNcL_law (p := 1326) (v := 46) (by decide +kernel))
theorem dL_law_1327 : decode cL_law 1327 = .ok (.aload_n 0, 1) := dc_42 (byA eNcL_law (p := 1327) (v := 42) (by decide +kernel))
theorem dL_law_1328 : decode cL_law 1328 = .ok (.iload 4, 2) := dc_21 (byA eNcL_law (p := 1328) (v := 21) (by decide +kernel)) (byA eNcL_law (p := 1329) (v := 4) (by decide +kernel))
theorem dL_law_1330 : decode cL_law 1330 = .ok (.iconst 2, 1) := dc_5 (byA eNcL_law (p := 1330) (v := 5) (by decide +kernel))
theorem dL_law_1331 : decode cL_law 1331 = .ok (.iadd, 1) := dc_96 (byA eNcL_law (p := 1331) (v := 96) (by decide +kernel))
theorem dL_law_1332 : decode cL_law 1332 = .ok (.iaload, 1) := dc_46 (byA eNcL_law (p := 1332) (v := 46) (by decide +kernel))
theorem dL_law_1333 : decode cL_law 1333 = .ok (.aload_n 0, 1) := dc_42 (byA eNcL_law (p := 1333) (v := 42) (by decide +kernel))
theorem dL_law_1334 : decode cL_law 1334 = .ok (.iload 4, 2) := dc_21 (byA eNcL_law (p := 1334) (v := 21) (by decide +kernel)) (byA eNcL_law (p := 1335) (v := 4) (by decide +kernel))
theorem dL_law_1336 : decode cL_law 1336 = .ok (.iconst 3, 1) := dc_6 (byA eNcL_law (p := 1336) (v := 6) (by decide +kernel))
theorem dL_law_1337 : decode cL_law 1337 = .ok (.iadd, 1) := dc_96 (byA eNcL_law (p := 1337) (v := 96) (by decide +kernel))
theorem dL_law_1338 : decode cL_law 1338 = .ok (.iaload, 1) := dc_46 (byA eNcL_law (p := 1338) (v := 46) (by decide +kernel))
theorem dL_law_1339 : decode cL_law 1339 = .ok (.invokevirtual 144, 3) := dc_182 (byA eNcL_law (p := 1339) (v := 182) (by decide +kernel)) (byA eNcL_law (p := 1340) (v := 0) (by decide +kernel)) (byA eNcL_law (p := 1341) (v := 144) (by decide +kernel)) rfl
theorem dL_law_1342 : decode cL_law 1342 = .ok (.pop, 1) := dc_87 (byA eNcL_law (p := 1342) (v := 87) (by decide +kernel))
theorem dL_law_1343 : decode cL_law 1343 = .ok (.aload_n 2, 1) := dc_44 (byA eNcL_law (p := 1343) (v := 44) (by decide +kernel))
theorem dL_law_1344 : decode cL_law 1344 = .ok (.aload_n 0, 1) := dc_42 (byA eNcL_law (p := 1344) (v := 42) (by decide +kernel))
theorem dL_law_1345 : decode cL_law 1345 = .ok (.iload 4, 2) := dc_21 (byA eNcL_law (p := 1345) (v := 21) (by decide +kernel)) (byA eNcL_law (p := 1346) (v := 4) (by decide +kernel))
theorem dL_law_1347 : decode cL_law 1347 = .ok (.iconst 1, 1) := dc_4 (byA eNcL_law (p := 1347) (v := 4) (by decide +kernel))
theorem dL_law_1348 : decode cL_law 1348 = .ok (.iadd, 1) := dc_96 (byA eNcL_law (p := 1348) (v := 96) (by decide +kernel))
theorem dL_law_1349 : decode cL_law 1349 = .ok (.iaload, 1) := dc_46 (byA eNcL_law (p := 1349) (v := 46) (by decide +kernel))
theorem dL_law_1350 : decode cL_law 1350 = .ok (.aload_n 0, 1) := dc_42 (byA eNcL_law (p := 1350) (v := 42) (by decide +kernel))
theorem dL_law_1351 : decode cL_law 1351 = .ok (.iload 4, 2) := dc_21 (byA eNcL_law (p := 1351) (v := 21) (by decide +kernel)) (byA eNcL_law (p := 1352) (v := 4) (by decide +kernel))
theorem dL_law_1353 : decode cL_law 1353 = .ok (.iconst 2, 1) := dc_5 (byA eNcL_law (p := 1353) (v := 5) (by decide +kernel))
theorem dL_law_1354 : decode cL_law 1354 = .ok (.iadd, 1) := dc_96 (byA eNcL_law (p := 1354) (v := 96) (by decide +kernel))
theorem dL_law_1355 : decode cL_law 1355 = .ok (.iaload, 1) := dc_46 (byA eNcL_law (p := 1355) (v := 46) (by decide +kernel))
theorem dL_law_1356 : decode cL_law 1356 = .ok (.aload_n 0, 1) := dc_42 (byA eNcL_law (p := 1356) (v := 42) (by decide +kernel))
theorem dL_law_1357 : decode cL_law 1357 = .ok (.iload 4, 2) := dc_21 (byA eNcL_law (p := 1357) (v := 21) (by decide +kernel)) (byA eNcL_law (p := 1358) (v := 4) (by decide +kernel))
theorem dL_law_1359 : decode cL_law 1359 = .ok (.iconst 3, 1) := dc_6 (byA eNcL_law (p := 1359) (v := 6) (by decide +kernel))
theorem dL_law_1360 : decode cL_law 1360 = .ok (.iadd, 1) := dc_96 (byA eNcL_law (p := 1360) (v := 96) (by decide +kernel))
theorem dL_law_1361 : decode cL_law 1361 = .ok (.iaload, 1) := dc_46 (byA eNcL_law (p := 1361) (v := 46) (by decide +kernel))
theorem dL_law_1362 : decode cL_law 1362 = .ok (.invokevirtual 147, 3) := dc_182 (byA eNcL_law (p := 1362) (v := 182) (by decide +kernel)) (byA eNcL_law (p := 1363) (v := 0) (by decide +kernel)) (byA eNcL_law (p := 1364) (v := 147) (by decide +kernel)) rfl
theorem dL_law_1365 : decode cL_law 1365 = .ok (.pop, 1) := dc_87 (byA eNcL_law (p := 1365) (v := 87) (by decide +kernel))
theorem dL_law_1366 : decode cL_law 1366 = .ok (.goto 215, 3) := dc_167 (byA eNcL_law (p := 1366) (v := 167) (by decide +kernel)) (byA eNcL_law (p := 1367) (v := 0) (by decide +kernel)) (byA eNcL_law (p := 1368) (v := 215) (by decide +kernel)) (by decide +kernel)
theorem dL_law_1369 : decode cL_law 1369 = .ok (.aload_n 1, 1) := dc_43 (byA eNcL_law (p := 1369) (v := 43) (by decide +kernel))
theorem dL_law_1370 : decode cL_law 1370 = .ok (.aload_n 0, 1) := dc_42 (byA eNcL_law (p := 1370) (v := 42) (by decide +kernel))
theorem dL_law_1371 : decode cL_law 1371 = .ok (.iload 4, 2) := dc_21 (byA eNcL_law (p := 1371) (v := 21) (by decide +kernel)) (byA eNcL_law (p := 1372) (v := 4) (by decide +kernel))
theorem dL_law_1373 : decode cL_law 1373 = .ok (.iconst 1, 1) := dc_4 (byA eNcL_law (p := 1373) (v := 4) (by decide +kernel))
theorem dL_law_1374 : decode cL_law 1374 = .ok (.iadd, 1) := dc_96 (byA eNcL_law (p := 1374) (v := 96) (by decide +kernel))
theorem dL_law_1375 : decode cL_law 1375 = .ok (.iaload, 1) := dc_46 (byA eNcL_law (p := 1375) (v := 46) (by decide +kernel))
theorem dL_law_1376 : decode cL_law 1376 = .ok (.aload_n 0, 1) := dc_42 (byA eNcL_law (p := 1376) (v := 42) (by decide +kernel))
theorem dL_law_1377 : decode cL_law 1377 = .ok (.iload 4, 2) := dc_21 (byA eNcL_law (p := 1377) (v := 21) (by decide +kernel)) (byA eNcL_law (p := 1378) (v := 4) (by decide +kernel))
theorem dL_law_1379 : decode cL_law 1379 = .ok (.iconst 2, 1) := dc_5 (byA eNcL_law (p := 1379) (v := 5) (by decide +kernel))
theorem dL_law_1380 : decode cL_law 1380 = .ok (.iadd, 1) := dc_96 (byA eNcL_law (p := 1380) (v := 96) (by decide +kernel))
theorem dL_law_1381 : decode cL_law 1381 = .ok (.iaload, 1) := dc_46 (byA eNcL_law (p := 1381) (v := 46) (by decide +kernel))
theorem dL_law_1382 : decode cL_law 1382 = .ok (.aload_n 0, 1) := dc_42 (byA eNcL_law (p := 1382) (v := 42) (by decide +kernel))
theorem dL_law_1383 : decode cL_law 1383 = .ok (.iload 4, 2) := dc_21 (byA eNcL_law (p := 1383) (v := 21) (by decide +kernel)) (byA eNcL_law (p := 1384) (v := 4) (by decide +kernel))
theorem dL_law_1385 : decode cL_law 1385 = .ok (.iconst 3, 1) := dc_6 (byA eNcL_law (p := 1385) (v := 6) (by decide +kernel))
theorem dL_law_1386 : decode cL_law 1386 = .ok (.iadd, 1) := dc_96 (byA eNcL_law (p := 1386) (v := 96) (by decide +kernel))
theorem dL_law_1387 : decode cL_law 1387 = .ok (.iaload, 1) := dc_46 (byA eNcL_law (p := 1387) (v := 46) (by decide +kernel))
theorem dL_law_1388 : decode cL_law 1388 = .ok (.invokevirtual 148, 3) := dc_182 (byA eNcL_law (p := 1388) (v := 182) (by decide +kernel)) (byA eNcL_law (p := 1389) (v := 0) (by decide +kernel)) (byA eNcL_law (p := 1390) (v := 148) (by decide +kernel)) rfl
theorem dL_law_1391 : decode cL_law 1391 = .ok (.pop, 1) := dc_87 (byA eNcL_law (p := 1391) (v := 87) (by decide +kernel))
theorem dL_law_1392 : decode cL_law 1392 = .ok (.aload_n 2, 1) := dc_44 (byA eNcL_law (p := 1392) (v := 44) (by decide +kernel))
theorem dL_law_1393 : decode cL_law 1393 = .ok (.aload_n 0, 1) := dc_42 (byA eNcL_law (p := 1393) (v := 42) (by decide +kernel))
theorem dL_law_1394 : decode cL_law 1394 = .ok (.iload 4, 2) := dc_21 (byA eNcL_law (p := 1394) (v := 21) (by decide +kernel)) (byA eNcL_law (p := 1395) (v := 4) (by decide +kernel))
theorem dL_law_1396 : decode cL_law 1396 = .ok (.iconst 1, 1) := dc_4 (byA eNcL_law (p := 1396) (v := 4) (by decide +kernel))
theorem dL_law_1397 : decode cL_law 1397 = .ok (.iadd, 1) := dc_96 (byA eNcL_law (p := 1397) (v := 96) (by decide +kernel))
theorem dL_law_1398 : decode cL_law 1398 = .ok (.iaload, 1) := dc_46 (byA eNcL_law (p := 1398) (v := 46) (by decide +kernel))
theorem dL_law_1399 : decode cL_law 1399 = .ok (.aload_n 0, 1) := dc_42 (byA eNcL_law (p := 1399) (v := 42) (by decide +kernel))
theorem dL_law_1400 : decode cL_law 1400 = .ok (.iload 4, 2) := dc_21 (byA eNcL_law (p := 1400) (v := 21) (by decide +kernel)) (byA eNcL_law (p := 1401) (v := 4) (by decide +kernel))
theorem dL_law_1402 : decode cL_law 1402 = .ok (.iconst 2, 1) := dc_5 (byA eNcL_law (p := 1402) (v := 5) (by decide +kernel))
theorem dL_law_1403 : decode cL_law 1403 = .ok (.iadd, 1) := dc_96 (byA eNcL_law (p := 1403) (v := 96) (by decide +kernel))
theorem dL_law_1404 : decode cL_law 1404 = .ok (.iaload, 1) := dc_46 (byA eNcL_law (p := 1404) (v := 46) (by decide +kernel))
theorem dL_law_1405 : decode cL_law 1405 = .ok (.aload_n 0, 1) := dc_42 (byA eNcL_law (p := 1405) (v := 42) (by decide +kernel))
theorem dL_law_1406 : decode cL_law 1406 = .ok (.iload 4, 2) := dc_21 (byA eNcL_law (p := 1406) (v := 21) (by decide +kernel)) (byA eNcL_law (p := 1407) (v := 4) (by decide +kernel))
theorem dL_law_1408 : decode cL_law 1408 = .ok (.iconst 3, 1) := dc_6 (byA eNcL_law (p := 1408) (v := 6) (by decide +kernel))
theorem dL_law_1409 : decode cL_law 1409 = .ok (.iadd, 1) := dc_96 (byA eNcL_law (p := 1409) (v := 96) (by decide +kernel))
theorem dL_law_1410 : decode cL_law 1410 = .ok (.iaload, 1) := dc_46 (byA eNcL_law (p := 1410) (v := 46) (by decide +kernel))
theorem dL_law_1411 : decode cL_law 1411 = .ok (.invokevirtual 151, 3) := dc_182 (byA eNcL_law (p := 1411) (v := 182) (by decide +kernel)) (byA eNcL_law (p := 1412) (v := 0) (by decide +kernel)) (byA eNcL_law (p := 1413) (v := 151) (by decide +kernel)) rfl
theorem dL_law_1414 : decode cL_law 1414 = .ok (.pop, 1) := dc_87 (byA eNcL_law (p := 1414) (v := 87) (by decide +kernel))
theorem dL_law_1415 : decode cL_law 1415 = .ok (.goto 166, 3) := dc_167 (byA eNcL_law (p := 1415) (v := 167) (by decide +kernel)) (byA eNcL_law (p := 1416) (v := 0) (by decide +kernel)) (byA eNcL_law (p := 1417) (v := 166) (by decide +kernel)) (by decide +kernel)
theorem dL_law_1418 : decode cL_law 1418 = .ok (.aload_n 1, 1) := dc_43 (byA eNcL_law (p := 1418) (v := 43) (by decide +kernel))
theorem dL_law_1419 : decode cL_law 1419 = .ok (.aload_n 0, 1) := dc_42 (byA eNcL_law (p := 1419) (v := 42) (by decide +kernel))
theorem dL_law_1420 : decode cL_law 1420 = .ok (.iload 4, 2) := dc_21 (byA eNcL_law (p := 1420) (v := 21) (by decide +kernel)) (byA eNcL_law (p := 1421) (v := 4) (by decide +kernel))
theorem dL_law_1422 : decode cL_law 1422 = .ok (.iconst 1, 1) := dc_4 (byA eNcL_law (p := 1422) (v := 4) (by decide +kernel))
theorem dL_law_1423 : decode cL_law 1423 = .ok (.iadd, 1) := dc_96 (byA eNcL_law (p := 1423) (v := 96) (by decide +kernel))
theorem dL_law_1424 : decode cL_law 1424 = .ok (.iaload, 1) := dc_46 (byA eNcL_law (p := 1424) (v := 46) (by decide +kernel))
theorem dL_law_1425 : decode cL_law 1425 = .ok (.aload_n 0, 1) := dc_42 (byA eNcL_law (p := 1425) (v := 42) (by decide +kernel))
theorem dL_law_1426 : decode cL_law 1426 = .ok (.iload 4, 2) := dc_21 (byA eNcL_law (p := 1426) (v := 21) (by decide +kernel)) (byA eNcL_law (p := 1427) (v := 4) (by decide +kernel))
theorem dL_law_1428 : decode cL_law 1428 = .ok (.iconst 2, 1) := dc_5 (byA eNcL_law (p := 1428) (v := 5) (by decide +kernel))
theorem dL_law_1429 : decode cL_law 1429 = .ok (.iadd, 1) := dc_96 (byA eNcL_law (p := 1429) (v := 96) (by decide +kernel))
theorem dL_law_1430 : decode cL_law 1430 = .ok (.iaload, 1) := dc_46 (byA eNcL_law (p := 1430) (v := 46) (by decide +kernel))
theorem dL_law_1431 : decode cL_law 1431 = .ok (.invokevirtual 152, 3) := dc_182 (byA eNcL_law (p := 1431) (v := 182) (by decide +kernel)) (byA eNcL_law (p := 1432) (v := 0) (by decide +kernel)) (byA eNcL_law (p := 1433) (v := 152) (by decide +kernel)) rfl
theorem dL_law_1434 : decode cL_law 1434 = .ok (.pop, 1) := dc_87 (byA eNcL_law (p := 1434) (v := 87) (by decide +kernel))
theorem dL_law_1435 : decode cL_law 1435 = .ok (.aload_n 2, 1) := dc_44 (byA eNcL_law (p := 1435) (v := 44) (by decide +kernel))
theorem dL_law_1436 : decode cL_law 1436 = .ok (.aload_n 0, 1) := dc_42 (byA eNcL_law (p := 1436) (v := 42) (by decide +kernel))
theorem dL_law_1437 : decode cL_law 1437 = .ok (.iload 4, 2) := dc_21 (byA eNcL_law (p := 1437) (v := 21) (by decide +kernel)) (byA eNcL_law (p := 1438) (v := 4) (by decide +kernel))
theorem dL_law_1439 : decode cL_law 1439 = .ok (.iconst 1, 1) := dc_4 (byA eNcL_law (p := 1439) (v := 4) (by decide +kernel))
theorem dL_law_1440 : decode cL_law 1440 = .ok (.iadd, 1) := dc_96 (byA eNcL_law (p := 1440) (v := 96) (by decide +kernel))
theorem dL_law_1441 : decode cL_law 1441 = .ok (.iaload, 1) := dc_46 (byA eNcL_law (p := 1441) (v := 46) (by decide +kernel))
theorem dL_law_1442 : decode cL_law 1442 = .ok (.aload_n 0, 1) := dc_42 (byA eNcL_law (p := 1442) (v := 42) (by decide +kernel))
theorem dL_law_1443 : decode cL_law 1443 = .ok (.iload 4, 2) := dc_21 (byA eNcL_law (p := 1443) (v := 21) (by decide +kernel)) (byA eNcL_law (p := 1444) (v := 4) (by decide +kernel))
theorem dL_law_1445 : decode cL_law 1445 = .ok (.iconst 2, 1) := dc_5 (byA eNcL_law (p := 1445) (v := 5) (by decide +kernel))
theorem dL_law_1446 : decode cL_law 1446 = .ok (.iadd, 1) := dc_96 (byA eNcL_law (p := 1446) (v := 96) (by decide +kernel))
theorem dL_law_1447 : decode cL_law 1447 = .ok (.iaload, 1) := dc_46 (byA eNcL_law (p := 1447) (v := 46) (by decide +kernel))
theorem dL_law_1448 : decode cL_law 1448 = .ok (.invokevirtual 155, 3) := dc_182 (byA eNcL_law (p := 1448) (v := 182) (by decide +kernel)) (byA eNcL_law (p := 1449) (v := 0) (by decide +kernel)) (byA eNcL_law (p := 1450) (v := 155) (by decide +kernel)) rfl
theorem dL_law_1451 : decode cL_law 1451 = .ok (.pop, 1) := dc_87 (byA eNcL_law (p := 1451) (v := 87) (by decide +kernel))
theorem dL_law_1452 : decode cL_law 1452 = .ok (.goto 129, 3) := dc_167 (byA eNcL_law (p := 1452) (v := 167) (by decide +kernel)) (byA eNcL_law (p := 1453) (v := 0) (by decide +kernel)) (byA eNcL_law (p := 1454) (v := 129) (by decide +kernel)) (by decide +kernel)
theorem dL_law_1455 : decode cL_law 1455 = .ok (.aload_n 1, 1) := dc_43 (byA eNcL_law (p := 1455) (v := 43) (by decide +kernel))
theorem dL_law_1456 : decode cL_law 1456 = .ok (.aload_n 0, 1) := dc_42 (byA eNcL_law (p := 1456) (v := 42) (by decide +kernel))
theorem dL_law_1457 : decode cL_law 1457 = .ok (.iload 4, 2) := dc_21 (byA eNcL_law (p := 1457) (v := 21) (by decide +kernel)) (byA eNcL_law (p := 1458) (v := 4) (by decide +kernel))
theorem dL_law_1459 : decode cL_law 1459 = .ok (.iconst 1, 1) := dc_4 (byA eNcL_law (p := 1459) (v := 4) (by decide +kernel))
theorem dL_law_1460 : decode cL_law 1460 = .ok (.iadd, 1) := dc_96 (byA eNcL_law (p := 1460) (v := 96) (by decide +kernel))
theorem dL_law_1461 : decode cL_law 1461 = .ok (.iaload, 1) := dc_46 (byA eNcL_law (p := 1461) (v := 46) (by decide +kernel))
theorem dL_law_1462 : decode cL_law 1462 = .ok (.invokevirtual 156, 3) := dc_182 (byA eNcL_law (p := 1462) (v := 182) (by decide +kernel)) (byA eNcL_law (p := 1463) (v := 0) (by decide +kernel)) (byA eNcL_law (p := 1464) (v := 156) (by decide +kernel)) rfl
theorem dL_law_1465 : decode cL_law 1465 = .ok (.pop, 1) := dc_87 (byA eNcL_law (p := 1465) (v := 87) (by decide +kernel))
theorem dL_law_1466 : decode cL_law 1466 = .ok (.aload_n 2, 1) := dc_44 (byA eNcL_law (p := 1466) (v := 44) (by decide +kernel))
theorem dL_law_1467 : decode cL_law 1467 = .ok (.aload_n 0, 1) := dc_42 (byA eNcL_law (p := 1467) (v := 42) (by decide +kernel))
theorem dL_law_1468 : decode cL_law 1468 = .ok (.iload 4, 2) := dc_21 (byA eNcL_law (p := 1468) (v := 21) (by decide +kernel)) (byA eNcL_law (p := 1469) (v := 4) (by decide +kernel))
theorem dL_law_1470 : decode cL_law 1470 = .ok (.iconst 1, 1) := dc_4 (byA eNcL_law (p := 1470) (v := 4) (by decide +kernel))
theorem dL_law_1471 : decode cL_law 1471 = .ok (.iadd, 1) := dc_96 (byA eNcL_law (p := 1471) (v := 96) (by decide +kernel))
theorem dL_law_1472 : decode cL_law 1472 = .ok (.iaload, 1) := dc_46 (byA eNcL_law (p := 1472) (v := 46) (by decide +kernel))
theorem dL_law_1473 : decode cL_law 1473 = .ok (.invokevirtual 159, 3) := dc_182 (byA eNcL_law (p := 1473) (v := 182) (by decide +kernel)) (byA eNcL_law (p := 1474) (v := 0) (by decide +kernel)) (byA eNcL_law (p := 1475) (v := 159) (by decide +kernel)) rfl
theorem dL_law_1476 : decode cL_law 1476 = .ok (.pop, 1) := dc_87 (byA eNcL_law (p := 1476) (v := 87) (by decide +kernel))
theorem dL_law_1477 : decode cL_law 1477 = .ok (.goto 104, 3) := dc_167 (byA eNcL_law (p := 1477) (v := 167) (by decide +kernel)) (byA eNcL_law (p := 1478) (v := 0) (by decide +kernel)) (byA eNcL_law (p := 1479) (v := 104) (by decide +kernel)) (by decide +kernel)
theorem dL_law_1480 : decode cL_law 1480 = .ok (.aload_n 1, 1) := dc_43 (byA eNcL_law (p := 1480) (v := 43) (by decide +kernel))
theorem dL_law_1481 : decode cL_law 1481 = .ok (.invokevirtual 160, 3) := dc_182 (byA eNcL_law (p := 1481) (v := 182) (by decide +kernel)) (byA eNcL_law (p := 1482) (v := 0) (by decide +kernel)) (byA eNcL_law (p := 1483) (v := 160) (by decide +kernel)) rfl
theorem dL_law_1484 : decode cL_law 1484 = .ok (.pop, 1) := dc_87 (byA eNcL_law (p := 1484) (v := 87) (by decide +kernel))
theorem dL_law_1485 : decode cL_law 1485 = .ok (.aload_n 2, 1) := dc_44 (byA eNcL_law (p := 1485) (v := 44) (by decide +kernel))
theorem dL_law_1486 : decode cL_law 1486 = .ok (.invokevirtual 163, 3) := dc_182 (byA eNcL_law (p := 1486) (v := 182) (by decide +kernel)) (byA eNcL_law (p := 1487) (v := 0) (by decide +kernel)) (byA eNcL_law (p := 1488) (v := 163) (by decide +kernel)) rfl
theorem dL_law_1489 : decode cL_law 1489 = .ok (.pop, 1) := dc_87 (byA eNcL_law (p := 1489) (v := 87) (by decide +kernel))
theorem dL_law_1490 : decode cL_law 1490 = .ok (.goto 91, 3) := dc_167 (byA eNcL_law (p := 1490) (v := 167) (by decide +kernel)) (byA eNcL_law (p := 1491) (v := 0) (by decide +kernel)) (byA eNcL_law (p := 1492) (v := 91) (by decide +kernel)) (by decide +kernel)
theorem dL_law_1493 : decode cL_law 1493 = .ok (.aload_n 1, 1) := dc_43 (byA eNcL_law (p := 1493) (v := 43) (by decide +kernel))
theorem dL_law_1494 : decode cL_law 1494 = .ok (.aload_n 0, 1) := dc_42 (byA eNcL_law (p := 1494) (v := 42) (by decide +kernel))
theorem dL_law_1495 : decode cL_law 1495 = .ok (.iload 4, 2) := dc_21 (byA eNcL_law (p := 1495) (v := 21) (by decide +kernel)) (byA eNcL_law (p := 1496) (v := 4) (by decide +kernel))
theorem dL_law_1497 : decode cL_law 1497 = .ok (.iconst 1, 1) := dc_4 (byA eNcL_law (p := 1497) (v := 4) (by decide +kernel))
theorem dL_law_1498 : decode cL_law 1498 = .ok (.iadd, 1) := dc_96 (byA eNcL_law (p := 1498) (v := 96) (by decide +kernel))
theorem dL_law_1499 : decode cL_law 1499 = .ok (.iaload, 1) := dc_46 (byA eNcL_law (p := 1499) (v := 46) (by decide +kernel))
theorem dL_law_1500 : decode cL_law 1500 = .ok (.aload_n 0, 1) := dc_42 (byA eNcL_law (p := 1500) (v := 42) (by decide +kernel))
theorem dL_law_1501 : decode cL_law 1501 = .ok (.iload 4, 2) := dc_21 (byA eNcL_law (p := 1501) (v := 21) (by decide +kernel)) (byA eNcL_law (p := 1502) (v := 4) (by decide +kernel))
theorem dL_law_1503 : decode cL_law 1503 = .ok (.iconst 2, 1) := dc_5 (byA eNcL_law (p := 1503) (v := 5) (by decide +kernel))
theorem dL_law_1504 : decode cL_law 1504 = .ok (.iadd, 1) := dc_96 (byA eNcL_law (p := 1504) (v := 96) (by decide +kernel))
theorem dL_law_1505 : decode cL_law 1505 = .ok (.iaload, 1) := dc_46 (byA eNcL_law (p := 1505) (v := 46) (by decide +kernel))
theorem dL_law_1506 : decode cL_law 1506 = .ok (.invokevirtual 164, 3) := dc_182 (byA eNcL_law (p := 1506) (v := 182) (by decide +kernel)) (byA eNcL_law (p := 1507) (v := 0) (by decide +kernel)) (byA eNcL_law (p := 1508) (v := 164) (by decide +kernel)) rfl
theorem dL_law_1509 : decode cL_law 1509 = .ok (.pop, 1) := dc_87 (byA eNcL_law (p := 1509) (v := 87) (by decide +kernel))
theorem dL_law_1510 : decode cL_law 1510 = .ok (.aload_n 2, 1) := dc_44 (byA eNcL_law (p := 1510) (v := 44) (by decide +kernel))
theorem dL_law_1511 : decode cL_law 1511 = .ok (.aload_n 0, 1) := dc_42 (byA eNcL_law (p := 1511) (v := 42) (by decide +kernel))
theorem dL_law_1512 : decode cL_law 1512 = .ok (.iload 4, 2) := dc_21 (byA eNcL_law (p := 1512) (v := 21) (by decide +kernel)) (byA eNcL_law (p := 1513) (v := 4) (by decide +kernel))
theorem dL_law_1514 : decode cL_law 1514 = .ok (.iconst 1, 1) := dc_4 (byA eNcL_law (p := 1514) (v := 4) (by decide +kernel))
theorem dL_law_1515 : decode cL_law 1515 = .ok (.iadd, 1) := dc_96 (byA eNcL_law (p := 1515) (v := 96) (by decide +kernel))
theorem dL_law_1516 : decode cL_law 1516 = .ok (.iaload, 1) := dc_46 (byA eNcL_law (p := 1516) (v := 46) (by decide +kernel))
theorem dL_law_1517 : decode cL_law 1517 = .ok (.aload_n 0, 1) := dc_42 (byA eNcL_law (p := 1517) (v := 42) (by decide +kernel))
theorem dL_law_1518 : decode cL_law 1518 = .ok (.iload 4, 2) := dc_21 (byA eNcL_law (p := 1518) (v := 21) (by decide +kernel)) (byA eNcL_law (p := 1519) (v := 4) (by decide +kernel))
theorem dL_law_1520 : decode cL_law 1520 = .ok (.iconst 2, 1) := dc_5 (byA eNcL_law (p := 1520) (v := 5) (by decide +kernel))
theorem dL_law_1521 : decode cL_law 1521 = .ok (.iadd, 1) := dc_96 (byA eNcL_law (p := 1521) (v := 96) (by decide +kernel))
theorem dL_law_1522 : decode cL_law 1522 = .ok (.iaload, 1) := dc_46 (byA eNcL_law (p := 1522) (v := 46) (by decide +kernel))
theorem dL_law_1523 : decode cL_law 1523 = .ok (.invokevirtual 167, 3) := dc_182 (byA eNcL_law (p := 1523) (v := 182) (by decide +kernel)) (byA eNcL_law (p := 1524) (v := 0) (by decide +kernel)) (byA eNcL_law (p := 1525) (v := 167) (by decide +kernel)) rfl
theorem dL_law_1526 : decode cL_law 1526 = .ok (.pop, 1) := dc_87 (byA eNcL_law (p := 1526) (v := 87) (by decide +kernel))
theorem dL_law_1527 : decode cL_law 1527 = .ok (.goto 54, 3) := dc_167 (byA eNcL_law (p := 1527) (v := 167) (by decide +kernel)) (byA eNcL_law (p := 1528) (v := 0) (by decide +kernel)) (byA eNcL_law (p := 1529) (v := 54) (by decide +kernel)) (by decide +kernel)
theorem dL_law_1530 : decode cL_law 1530 = .ok (.aload_n 1, 1) := dc_43 (byA eNcL_law (p := 1530) (v := 43) (by decide +kernel))
theorem dL_law_1531 : decode cL_law 1531 = .ok (.invokevirtual 168, 3) := dc_182 (byA eNcL_law (p := 1531) (v := 182) (by decide +kernel)) (byA eNcL_law (p := 1532) (v := 0) (by decide +kernel)) (byA eNcL_law (p := 1533) (v := 168) (by decide +kernel)) rfl
theorem dL_law_1534 : decode cL_law 1534 = .ok (.pop, 1) := dc_87 (byA eNcL_law (p := 1534) (v := 87) (by decide +kernel))
theorem dL_law_1535 : decode cL_law 1535 = .ok (.aload_n 2, 1) := dc_44 (byA eNcL_law (p := 1535) (v := 44) (by decide +kernel))
theorem dL_law_1536 : decode cL_law 1536 = .ok (.invokevirtual 171, 3) := dc_182 (byA eNcL_law (p := 1536) (v := 182) (by decide +kernel)) (byA eNcL_law (p := 1537) (v := 0) (by decide +kernel)) (byA eNcL_law (p := 1538) (v := 171) (by decide +kernel)) rfl
theorem dL_law_1539 : decode cL_law 1539 = .ok (.pop, 1) := dc_87 (byA eNcL_law (p := 1539) (v := 87) (by decide +kernel))
theorem dL_law_1540 : decode cL_law 1540 = .ok (.goto 41, 3) := dc_167 (byA eNcL_law (p := 1540) (v := 167) (by decide +kernel)) (byA eNcL_law (p := 1541) (v := 0) (by decide +kernel)) (byA eNcL_law (p := 1542) (v := 41) (by decide +kernel)) (by decide +kernel)
theorem dL_law_1543 : decode cL_law 1543 = .ok (.aload_n 1, 1) := dc_43 (byA eNcL_law (p := 1543) (v := 43) (by decide +kernel))
theorem dL_law_1544 : decode cL_law 1544 = .ok (.invokevirtual 172, 3) := dc_182 (byA eNcL_law (p := 1544) (v := 182) (by decide +kernel)) (byA eNcL_law (p := 1545) (v := 0) (by decide +kernel)) (byA eNcL_law (p := 1546) (v := 172) (by decide +kernel)) rfl
theorem dL_law_1547 : decode cL_law 1547 = .ok (.pop, 1) := dc_87 (byA eNcL_law (p := 1547) (v := 87) (by decide +kernel))
theorem dL_law_1548 : decode cL_law 1548 = .ok (.aload_n 2, 1) := dc_44 (byA eNcL_law (p := 1548) (v := 44) (by decide +kernel))
theorem dL_law_1549 : decode cL_law 1549 = .ok (.invokevirtual 175, 3) := dc_182 (byA eNcL_law (p := 1549) (v := 182) (by decide +kernel)) (byA eNcL_law (p := 1550) (v := 0) (by decide +kernel)) (byA eNcL_law (p := 1551) (v := 175) (by decide +kernel)) rfl
theorem dL_law_1552 : decode cL_law 1552 = .ok (.pop, 1) := dc_87 (byA eNcL_law (p := 1552) (v := 87) (by decide +kernel))
theorem dL_law_1553 : decode cL_law 1553 = .ok (.goto 28, 3) := dc_167 (byA eNcL_law (p := 1553) (v := 167) (by decide +kernel)) (byA eNcL_law (p := 1554) (v := 0) (by decide +kernel)) (byA eNcL_law (p := 1555) (v := 28) (by decide +kernel)) (by decide +kernel)
theorem dL_law_1556 : decode cL_law 1556 = .ok (.aload_n 1, 1) := dc_43 (byA eNcL_law (p := 1556) (v := 43) (by decide +kernel))
theorem dL_law_1557 : decode cL_law 1557 = .ok (.aload_n 0, 1) := dc_42 (byA eNcL_law (p := 1557) (v := 42) (by decide +kernel))
theorem dL_law_1558 : decode cL_law 1558 = .ok (.iload 4, 2) := dc_21 (byA eNcL_law (p := 1558) (v := 21) (by decide +kernel)) (byA eNcL_law (p := 1559) (v := 4) (by decide +kernel))
theorem dL_law_1560 : decode cL_law 1560 = .ok (.iconst 1, 1) := dc_4 (byA eNcL_law (p := 1560) (v := 4) (by decide +kernel))
theorem dL_law_1561 : decode cL_law 1561 = .ok (.iadd, 1) := dc_96 (byA eNcL_law (p := 1561) (v := 96) (by decide +kernel))
theorem dL_law_1562 : decode cL_law 1562 = .ok (.iaload, 1) := dc_46 (byA eNcL_law (p := 1562) (v := 46) (by decide +kernel))
theorem dL_law_1563 : decode cL_law 1563 = .ok (.invokevirtual 176, 3) := dc_182 (byA eNcL_law (p := 1563) (v := 182) (by decide +kernel)) (byA eNcL_law (p := 1564) (v := 0) (by decide +kernel)) (byA eNcL_law (p := 1565) (v := 176) (by decide +kernel)) rfl
theorem dL_law_1566 : decode cL_law 1566 = .ok (.pop, 1) := dc_87 (byA eNcL_law (p := 1566) (v := 87) (by decide +kernel))
theorem dL_law_1567 : decode cL_law 1567 = .ok (.aload_n 2, 1) := dc_44 (byA eNcL_law (p := 1567) (v := 44) (by decide +kernel))
theorem dL_law_1568 : decode cL_law 1568 = .ok (.aload_n 0, 1) := dc_42 (byA eNcL_law (p := 1568) (v := 42) (by decide +kernel))
theorem dL_law_1569 : decode cL_law 1569 = .ok (.iload 4, 2) := dc_21 (byA eNcL_law (p := 1569) (v := 21) (by decide +kernel)) (byA eNcL_law (p := 1570) (v := 4) (by decide +kernel))
theorem dL_law_1571 : decode cL_law 1571 = .ok (.iconst 1, 1) := dc_4 (byA eNcL_law (p := 1571) (v := 4) (by decide +kernel))
theorem dL_law_1572 : decode cL_law 1572 = .ok (.iadd, 1) := dc_96 (byA eNcL_law (p := 1572) (v := 96) (by decide +kernel))
theorem dL_law_1573 : decode cL_law 1573 = .ok (.iaload, 1) := dc_46 (byA eNcL_law (p := 1573) (v := 46) (by decide +kernel))
theorem dL_law_1574 : decode cL_law 1574 = .ok (.invokevirtual 179, 3) := dc_182 (byA eNcL_law (p := 1574) (v := 182) (by decide +kernel)) (byA eNcL_law (p := 1575) (v := 0) (by decide +kernel)) (byA eNcL_law (p := 1576) (v := 179) (by decide +kernel)) rfl
theorem dL_law_1577 : decode cL_law 1577 = .ok (.pop, 1) := dc_87 (byA eNcL_law (p := 1577) (v := 87) (by decide +kernel))
theorem dL_law_1578 : decode cL_law 1578 = .ok (.goto 3, 3) := dc_167 (byA eNcL_law (p := 1578) (v := 167) (by decide +kernel)) (byA eNcL_law (p := 1579) (v := 0) (by decide +kernel)) (byA eNcL_law (p := 1580) (v := 3) (by decide +kernel)) (by decide +kernel)
theorem dL_law_1581 : decode cL_law 1581 = .ok (.iinc 4 6, 3) := dc_132 (byA eNcL_law (p := 1581) (v := 132) (by decide +kernel)) (byA eNcL_law (p := 1582) (v := 4) (by decide +kernel)) (byA eNcL_law (p := 1583) (v := 6) (by decide +kernel)) (by decide +kernel)
theorem dL_law_1584 : decode cL_law 1584 = .ok (.goto (-1561), 3) := dc_167 (byA eNcL_law (p := 1584) (v := 167) (by decide +kernel)) (byA eNcL_law (p := 1585) (v := 249) (by decide +kernel)) (byA eNcL_law (p := 1586) (v := 231) (by decide +kernel)) (by decide +kernel)
theorem dL_law_1587 : decode cL_law 1587 = .ok (.iconst 1, 1) := dc_4 (byA eNcL_law (p := 1587) (v := 4) (by decide +kernel))
theorem dL_law_1588 : decode cL_law 1588 = .ok (.ireturn, 1) := dc_172 (byA eNcL_law (p := 1588) (v := 172) (by decide +kernel))
set_option maxRecDepth 100000 in
theorem mvL_102 : mV R_law 102 mX11_age 1 := ⟨(tG_of (tb7 (List.mem_of_getElem? (i := 80) rfl)) (by decide +kernel)), (tG_of (tb7 (List.mem_of_getElem? (i := 81) rfl)) (by decide +kernel)), (tG_of (tb7 (List.mem_of_getElem? (i := 82) rfl)) (by decide +kernel)), (tG_of (tb1 (List.mem_of_getElem? (i := 12) rfl)) (by decide +kernel)), (tG_of (tb7 (List.mem_of_getElem? (i := 83) rfl)) (by decide +kernel)), ⟨by decide, by decide, by decide +kernel⟩, by decide⟩
set_option maxRecDepth 100000 in
theorem mvL_103 : mV R_law 103 mX10_first 0 := ⟨(tG_of (tb4 (List.mem_of_getElem? (i := 141) rfl)) (by decide +kernel)), (tG_of (tb4 (List.mem_of_getElem? (i := 142) rfl)) (by decide +kernel)), (tG_of (tb4 (List.mem_of_getElem? (i := 143) rfl)) (by decide +kernel)), (tG_of (tb1 (List.mem_of_getElem? (i := 1) rfl)) (by decide +kernel)), (tG_of (tb4 (List.mem_of_getElem? (i := 144) rfl)) (by decide +kernel)), ⟨by decide, by decide, by decide +kernel⟩, by decide⟩
set_option maxRecDepth 100000 in
theorem mvL_107 : mV R_law 107 mX11_first 0 := ⟨(tG_of (tb7 (List.mem_of_getElem? (i := 88) rfl)) (by decide +kernel)), (tG_of (tb7 (List.mem_of_getElem? (i := 89) rfl)) (by decide +kernel)), (tG_of (tb7 (List.mem_of_getElem? (i := 90) rfl)) (by decide +kernel)), (tG_of (tb1 (List.mem_of_getElem? (i := 12) rfl)) (by decide +kernel)), (tG_of (tb7 (List.mem_of_getElem? (i := 91) rfl)) (by decide +kernel)), ⟨by decide, by decide, by decide +kernel⟩, by decide⟩
set_option maxRecDepth 100000 in
theorem mvL_108 : mV R_law 108 mX10_post 2 := ⟨(tG_of (tb4 (List.mem_of_getElem? (i := 145) rfl)) (by decide +kernel)), (tG_of (tb4 (List.mem_of_getElem? (i := 146) rfl)) (by decide +kernel)), (tG_of (tb4 (List.mem_of_getElem? (i := 147) rfl)) (by decide +kernel)), (tG_of (tb1 (List.mem_of_getElem? (i := 1) rfl)) (by decide +kernel)), (tG_of (tb4 (List.mem_of_getElem? (i := 148) rfl)) (by decide +kernel)), ⟨by decide, by decide, by decide +kernel⟩, by decide⟩
set_option maxRecDepth 100000 in
theorem mvL_111 : mV R_law 111 mX11_post 2 := ⟨(tG_of (tb7 (List.mem_of_getElem? (i := 92) rfl)) (by decide +kernel)), (tG_of (tb7 (List.mem_of_getElem? (i := 93) rfl)) (by decide +kernel)), (tG_of (tb7 (List.mem_of_getElem? (i := 94) rfl)) (by decide +kernel)), (tG_of (tb1 (List.mem_of_getElem? (i := 12) rfl)) (by decide +kernel)), (tG_of (tb7 (List.mem_of_getElem? (i := 95) rfl)) (by decide +kernel)), ⟨by decide, by decide, by decide +kernel⟩, by decide⟩
set_option maxRecDepth 100000 in
theorem mvL_112 : mV R_law 112 mX10_rope 2 := ⟨(tG_of (tb4 (List.mem_of_getElem? (i := 157) rfl)) (by decide +kernel)), (tG_of (tb4 (List.mem_of_getElem? (i := 158) rfl)) (by decide +kernel)), (tG_of (tb4 (List.mem_of_getElem? (i := 159) rfl)) (by decide +kernel)), (tG_of (tb1 (List.mem_of_getElem? (i := 1) rfl)) (by decide +kernel)), (tG_of (tb4 (List.mem_of_getElem? (i := 160) rfl)) (by decide +kernel)), ⟨by decide, by decide, by decide +kernel⟩, by decide⟩
set_option maxRecDepth 100000 in
theorem mvL_115 : mV R_law 115 mX11_rope 2 := ⟨(tG_of (tb7 (List.mem_of_getElem? (i := 100) rfl)) (by decide +kernel)), (tG_of (tb7 (List.mem_of_getElem? (i := 101) rfl)) (by decide +kernel)), (tG_of (tb7 (List.mem_of_getElem? (i := 102) rfl)) (by decide +kernel)), (tG_of (tb1 (List.mem_of_getElem? (i := 12) rfl)) (by decide +kernel)), (tG_of (tb7 (List.mem_of_getElem? (i := 103) rfl)) (by decide +kernel)), ⟨by decide, by decide, by decide +kernel⟩, by decide⟩
set_option maxRecDepth 100000 in
theorem mvL_116 : mV R_law 116 mX10_exchange 3 := ⟨(tG_of (tb4 (List.mem_of_getElem? (i := 167) rfl)) (by decide +kernel)), (tG_of (tb4 (List.mem_of_getElem? (i := 168) rfl)) (by decide +kernel)), (tG_of (tb4 (List.mem_of_getElem? (i := 169) rfl)) (by decide +kernel)), (tG_of (tb1 (List.mem_of_getElem? (i := 1) rfl)) (by decide +kernel)), (tG_of (tb4 (List.mem_of_getElem? (i := 170) rfl)) (by decide +kernel)), ⟨by decide, by decide, by decide +kernel⟩, by decide⟩
set_option maxRecDepth 100000 in
theorem mvL_119 : mV R_law 119 mX11_exchange 3 := ⟨(tG_of (tb7 (List.mem_of_getElem? (i := 104) rfl)) (by decide +kernel)), (tG_of (tb7 (List.mem_of_getElem? (i := 105) rfl)) (by decide +kernel)), (tG_of (tb7 (List.mem_of_getElem? (i := 106) rfl)) (by decide +kernel)), (tG_of (tb1 (List.mem_of_getElem? (i := 12) rfl)) (by decide +kernel)), (tG_of (tb7 (List.mem_of_getElem? (i := 107) rfl)) (by decide +kernel)), ⟨by decide, by decide, by decide +kernel⟩, by decide⟩
set_option maxRecDepth 100000 in
theorem mvL_120 : mV R_law 120 mX10_skip 3 := ⟨(tG_of (tb4 (List.mem_of_getElem? (i := 187) rfl)) (by decide +kernel)), (tG_of (tb4 (List.mem_of_getElem? (i := 188) rfl)) (by decide +kernel)), (tG_of (tb4 (List.mem_of_getElem? (i := 189) rfl)) (by decide +kernel)), (tG_of (tb1 (List.mem_of_getElem? (i := 1) rfl)) (by decide +kernel)), (tG_of (tb4 (List.mem_of_getElem? (i := 190) rfl)) (by decide +kernel)), ⟨by decide, by decide, by decide +kernel⟩, by decide⟩
set_option maxRecDepth 100000 in
theorem mvL_123 : mV R_law 123 mX11_skip 3 := ⟨(tG_of (tb7 (List.mem_of_getElem? (i := 112) rfl)) (by decide +kernel)), (tG_of (tb7 (List.mem_of_getElem? (i := 113) rfl)) (by decide +kernel)), (tG_of (tb7 (List.mem_of_getElem? (i := 114) rfl)) (by decide +kernel)), (tG_of (tb1 (List.mem_of_getElem? (i := 12) rfl)) (by decide +kernel)), (tG_of (tb7 (List.mem_of_getElem? (i := 115) rfl)) (by decide +kernel)), ⟨by decide, by decide, by decide +kernel⟩, by decide⟩
set_option maxRecDepth 100000 in
theorem mvL_124 : mV R_law 124 mX10_nights 3 := ⟨(tG_of (tb4 (List.mem_of_getElem? (i := 191) rfl)) (by decide +kernel)), (tG_of (tb4 (List.mem_of_getElem? (i := 192) rfl)) (by decide +kernel)), (tG_of (tb4 (List.mem_of_getElem? (i := 193) rfl)) (by decide +kernel)), (tG_of (tb1 (List.mem_of_getElem? (i := 1) rfl)) (by decide +kernel)), (tG_of (tb4 (List.mem_of_getElem? (i := 194) rfl)) (by decide +kernel)), ⟨by decide, by decide, by decide +kernel⟩, by decide⟩
set_option maxRecDepth 100000 in
theorem mvL_127 : mV R_law 127 mX11_nights 3 := ⟨(tG_of (tb7 (List.mem_of_getElem? (i := 116) rfl)) (by decide +kernel)), (tG_of (tb7 (List.mem_of_getElem? (i := 117) rfl)) (by decide +kernel)), (tG_of (tb7 (List.mem_of_getElem? (i := 118) rfl)) (by decide +kernel)), (tG_of (tb1 (List.mem_of_getElem? (i := 12) rfl)) (by decide +kernel)), (tG_of (tb7 (List.mem_of_getElem? (i := 119) rfl)) (by decide +kernel)), ⟨by decide, by decide, by decide +kernel⟩, by decide⟩
set_option maxRecDepth 100000 in
theorem mvL_128 : mV R_law 128 mX10_thud 2 := ⟨(tG_of (tb4 (List.mem_of_getElem? (i := 199) rfl)) (by decide +kernel)), (tG_of (tb4 (List.mem_of_getElem? (i := 200) rfl)) (by decide +kernel)), (tG_of (tb4 (List.mem_of_getElem? (i := 201) rfl)) (by decide +kernel)), (tG_of (tb1 (List.mem_of_getElem? (i := 1) rfl)) (by decide +kernel)), (tG_of (tb4 (List.mem_of_getElem? (i := 202) rfl)) (by decide +kernel)), ⟨by decide, by decide, by decide +kernel⟩, by decide⟩
set_option maxRecDepth 100000 in
theorem mvL_131 : mV R_law 131 mX11_thud 2 := ⟨(tG_of (tb7 (List.mem_of_getElem? (i := 124) rfl)) (by decide +kernel)), (tG_of (tb7 (List.mem_of_getElem? (i := 125) rfl)) (by decide +kernel)), (tG_of (tb7 (List.mem_of_getElem? (i := 126) rfl)) (by decide +kernel)), (tG_of (tb1 (List.mem_of_getElem? (i := 12) rfl)) (by decide +kernel)), (tG_of (tb7 (List.mem_of_getElem? (i := 127) rfl)) (by decide +kernel)), ⟨by decide, by decide, by decide +kernel⟩, by decide⟩
set_option maxRecDepth 100000 in
theorem mvL_132 : mV R_law 132 mX10_fit 2 := ⟨(tG_of (tb4 (List.mem_of_getElem? (i := 207) rfl)) (by decide +kernel)), (tG_of (tb4 (List.mem_of_getElem? (i := 208) rfl)) (by decide +kernel)), (tG_of (tb4 (List.mem_of_getElem? (i := 209) rfl)) (by decide +kernel)), (tG_of (tb1 (List.mem_of_getElem? (i := 1) rfl)) (by decide +kernel)), (tG_of (tb4 (List.mem_of_getElem? (i := 210) rfl)) (by decide +kernel)), ⟨by decide, by decide, by decide +kernel⟩, by decide⟩
set_option maxRecDepth 100000 in
theorem mvL_135 : mV R_law 135 mX11_fit 2 := ⟨(tG_of (tb7 (List.mem_of_getElem? (i := 128) rfl)) (by decide +kernel)), (tG_of (tb7 (List.mem_of_getElem? (i := 129) rfl)) (by decide +kernel)), (tG_of (tb7 (List.mem_of_getElem? (i := 130) rfl)) (by decide +kernel)), (tG_of (tb1 (List.mem_of_getElem? (i := 12) rfl)) (by decide +kernel)), (tG_of (tb7 (List.mem_of_getElem? (i := 131) rfl)) (by decide +kernel)), ⟨by decide, by decide, by decide +kernel⟩, by decide⟩
set_option maxRecDepth 100000 in
theorem mvL_136 : mV R_law 136 mX10_boy 4 := ⟨(tG_of (tb4 (List.mem_of_getElem? (i := 238) rfl)) (by decide +kernel)), (tG_of (tb4 (List.mem_of_getElem? (i := 239) rfl)) (by decide +kernel)), (tG_of (tb5 (List.mem_of_getElem? (i := 0) rfl)) (by decide +kernel)), (tG_of (tb1 (List.mem_of_getElem? (i := 1) rfl)) (by decide +kernel)), (tG_of (tb5 (List.mem_of_getElem? (i := 1) rfl)) (by decide +kernel)), ⟨by decide, by decide, by decide +kernel⟩, by decide⟩
set_option maxRecDepth 100000 in
theorem mvL_139 : mV R_law 139 mX11_boy 4 := ⟨(tG_of (tb7 (List.mem_of_getElem? (i := 140) rfl)) (by decide +kernel)), (tG_of (tb7 (List.mem_of_getElem? (i := 141) rfl)) (by decide +kernel)), (tG_of (tb7 (List.mem_of_getElem? (i := 142) rfl)) (by decide +kernel)), (tG_of (tb1 (List.mem_of_getElem? (i := 12) rfl)) (by decide +kernel)), (tG_of (tb7 (List.mem_of_getElem? (i := 143) rfl)) (by decide +kernel)), ⟨by decide, by decide, by decide +kernel⟩, by decide⟩
set_option maxRecDepth 100000 in
theorem mvL_140 : mV R_law 140 mX10_out 1 := ⟨(tG_of (tb3 (List.mem_of_getElem? (i := 182) rfl)) (by decide +kernel)), (tG_of (tb3 (List.mem_of_getElem? (i := 183) rfl)) (by decide +kernel)), (tG_of (tb3 (List.mem_of_getElem? (i := 184) rfl)) (by decide +kernel)), (tG_of (tb1 (List.mem_of_getElem? (i := 1) rfl)) (by decide +kernel)), (tG_of (tb3 (List.mem_of_getElem? (i := 185) rfl)) (by decide +kernel)), ⟨by decide, by decide, by decide +kernel⟩, by decide⟩
set_option maxRecDepth 100000 in
theorem mvL_143 : mV R_law 143 mX11_out 1 := ⟨(tG_of (tb7 (List.mem_of_getElem? (i := 144) rfl)) (by decide +kernel)), (tG_of (tb7 (List.mem_of_getElem? (i := 145) rfl)) (by decide +kernel)), (tG_of (tb7 (List.mem_of_getElem? (i := 146) rfl)) (by decide +kernel)), (tG_of (tb1 (List.mem_of_getElem? (i := 12) rfl)) (by decide +kernel)), (tG_of (tb7 (List.mem_of_getElem? (i := 147) rfl)) (by decide +kernel)), ⟨by decide, by decide, by decide +kernel⟩, by decide⟩
set_option maxRecDepth 100000 in
theorem mvL_144 : mV R_law 144 mX10_walk 3 := ⟨(tG_of (tb4 (List.mem_of_getElem? (i := 51) rfl)) (by decide +kernel)), (tG_of (tb4 (List.mem_of_getElem? (i := 52) rfl)) (by decide +kernel)), (tG_of (tb4 (List.mem_of_getElem? (i := 53) rfl)) (by decide +kernel)), (tG_of (tb1 (List.mem_of_getElem? (i := 1) rfl)) (by decide +kernel)), (tG_of (tb4 (List.mem_of_getElem? (i := 54) rfl)) (by decide +kernel)), ⟨by decide, by decide, by decide +kernel⟩, by decide⟩
set_option maxRecDepth 100000 in
theorem mvL_147 : mV R_law 147 mX11_walk 3 := ⟨(tG_of (tb7 (List.mem_of_getElem? (i := 148) rfl)) (by decide +kernel)), (tG_of (tb7 (List.mem_of_getElem? (i := 149) rfl)) (by decide +kernel)), (tG_of (tb7 (List.mem_of_getElem? (i := 150) rfl)) (by decide +kernel)), (tG_of (tb1 (List.mem_of_getElem? (i := 12) rfl)) (by decide +kernel)), (tG_of (tb7 (List.mem_of_getElem? (i := 151) rfl)) (by decide +kernel)), ⟨by decide, by decide, by decide +kernel⟩, by decide⟩
set_option maxRecDepth 100000 in
theorem mvL_148 : mV R_law 148 mX10_mend 3 := ⟨(tG_of (tb4 (List.mem_of_getElem? (i := 102) rfl)) (by decide +kernel)), (tG_of (tb4 (List.mem_of_getElem? (i := 103) rfl)) (by decide +kernel)), (tG_of (tb4 (List.mem_of_getElem? (i := 104) rfl)) (by decide +kernel)), (tG_of (tb1 (List.mem_of_getElem? (i := 1) rfl)) (by decide +kernel)), (tG_of (tb4 (List.mem_of_getElem? (i := 105) rfl)) (by decide +kernel)), ⟨by decide, by decide, by decide +kernel⟩, by decide⟩
set_option maxRecDepth 100000 in
theorem mvL_151 : mV R_law 151 mX11_mend 3 := ⟨(tG_of (tb7 (List.mem_of_getElem? (i := 152) rfl)) (by decide +kernel)), (tG_of (tb7 (List.mem_of_getElem? (i := 153) rfl)) (by decide +kernel)), (tG_of (tb7 (List.mem_of_getElem? (i := 154) rfl)) (by decide +kernel)), (tG_of (tb1 (List.mem_of_getElem? (i := 12) rfl)) (by decide +kernel)), (tG_of (tb7 (List.mem_of_getElem? (i := 155) rfl)) (by decide +kernel)), ⟨by decide, by decide, by decide +kernel⟩, by decide⟩
set_option maxRecDepth 100000 in
theorem mvL_152 : mV R_law 152 mX10_slack 2 := ⟨(tG_of (tb4 (List.mem_of_getElem? (i := 195) rfl)) (by decide +kernel)), (tG_of (tb4 (List.mem_of_getElem? (i := 196) rfl)) (by decide +kernel)), (tG_of (tb4 (List.mem_of_getElem? (i := 197) rfl)) (by decide +kernel)), (tG_of (tb1 (List.mem_of_getElem? (i := 1) rfl)) (by decide +kernel)), (tG_of (tb4 (List.mem_of_getElem? (i := 198) rfl)) (by decide +kernel)), ⟨by decide, by decide, by decide +kernel⟩, by decide⟩
set_option maxRecDepth 100000 in
theorem mvL_155 : mV R_law 155 mX11_slack 2 := ⟨(tG_of (tb7 (List.mem_of_getElem? (i := 156) rfl)) (by decide +kernel)), (tG_of (tb7 (List.mem_of_getElem? (i := 157) rfl)) (by decide +kernel)), (tG_of (tb7 (List.mem_of_getElem? (i := 158) rfl)) (by decide +kernel)), (tG_of (tb1 (List.mem_of_getElem? (i := 12) rfl)) (by decide +kernel)), (tG_of (tb7 (List.mem_of_getElem? (i := 159) rfl)) (by decide +kernel)), ⟨by decide, by decide, by decide +kernel⟩, by decide⟩
set_option maxRecDepth 100000 in
theorem mvL_156 : mV R_law 156 mX10_urgent 1 := ⟨(tG_of (tb4 (List.mem_of_getElem? (i := 183) rfl)) (by decide +kernel)), (tG_of (tb4 (List.mem_of_getElem? (i := 184) rfl)) (by decide +kernel)), (tG_of (tb4 (List.mem_of_getElem? (i := 185) rfl)) (by decide +kernel)), (tG_of (tb1 (List.mem_of_getElem? (i := 1) rfl)) (by decide +kernel)), (tG_of (tb4 (List.mem_of_getElem? (i := 186) rfl)) (by decide +kernel)), ⟨by decide, by decide, by decide +kernel⟩, by decide⟩
set_option maxRecDepth 100000 in
theorem mvL_159 : mV R_law 159 mX11_urgent 1 := ⟨(tG_of (tb7 (List.mem_of_getElem? (i := 160) rfl)) (by decide +kernel)), (tG_of (tb7 (List.mem_of_getElem? (i := 161) rfl)) (by decide +kernel)), (tG_of (tb7 (List.mem_of_getElem? (i := 162) rfl)) (by decide +kernel)), (tG_of (tb1 (List.mem_of_getElem? (i := 12) rfl)) (by decide +kernel)), (tG_of (tb7 (List.mem_of_getElem? (i := 163) rfl)) (by decide +kernel)), ⟨by decide, by decide, by decide +kernel⟩, by decide⟩
set_option maxRecDepth 100000 in
theorem mvL_160 : mV R_law 160 mX10_dead 0 := ⟨(tG_of (tb3 (List.mem_of_getElem? (i := 187) rfl)) (by decide +kernel)), (tG_of (tb3 (List.mem_of_getElem? (i := 188) rfl)) (by decide +kernel)), (tG_of (tb3 (List.mem_of_getElem? (i := 189) rfl)) (by decide +kernel)), (tG_of (tb1 (List.mem_of_getElem? (i := 1) rfl)) (by decide +kernel)), (tG_of (tb3 (List.mem_of_getElem? (i := 190) rfl)) (by decide +kernel)), ⟨by decide, by decide, by decide +kernel⟩, by decide⟩
set_option maxRecDepth 100000 in
theorem mvL_163 : mV R_law 163 mX11_dead 0 := ⟨(tG_of (tb7 (List.mem_of_getElem? (i := 164) rfl)) (by decide +kernel)), (tG_of (tb7 (List.mem_of_getElem? (i := 165) rfl)) (by decide +kernel)), (tG_of (tb7 (List.mem_of_getElem? (i := 166) rfl)) (by decide +kernel)), (tG_of (tb1 (List.mem_of_getElem? (i := 12) rfl)) (by decide +kernel)), (tG_of (tb7 (List.mem_of_getElem? (i := 167) rfl)) (by decide +kernel)), ⟨by decide, by decide, by decide +kernel⟩, by decide⟩
set_option maxRecDepth 100000 in
theorem mvL_164 : mV R_law 164 mX10_pillar 2 := ⟨(tG_of (tb4 (List.mem_of_getElem? (i := 175) rfl)) (by decide +kernel)), (tG_of (tb4 (List.mem_of_getElem? (i := 176) rfl)) (by decide +kernel)), (tG_of (tb4 (List.mem_of_getElem? (i := 177) rfl)) (by decide +kernel)), (tG_of (tb1 (List.mem_of_getElem? (i := 1) rfl)) (by decide +kernel)), (tG_of (tb4 (List.mem_of_getElem? (i := 178) rfl)) (by decide +kernel)), ⟨by decide, by decide, by decide +kernel⟩, by decide⟩
set_option maxRecDepth 100000 in
theorem mvL_167 : mV R_law 167 mX11_pillar 2 := ⟨(tG_of (tb7 (List.mem_of_getElem? (i := 168) rfl)) (by decide +kernel)), (tG_of (tb7 (List.mem_of_getElem? (i := 169) rfl)) (by decide +kernel)), (tG_of (tb7 (List.mem_of_getElem? (i := 170) rfl)) (by decide +kernel)), (tG_of (tb1 (List.mem_of_getElem? (i := 12) rfl)) (by decide +kernel)), (tG_of (tb7 (List.mem_of_getElem? (i := 171) rfl)) (by decide +kernel)), ⟨by decide, by decide, by decide +kernel⟩, by decide⟩
set_option maxRecDepth 100000 in
theorem mvL_168 : mV R_law 168 mX10_image 0 := ⟨(tG_of (tb3 (List.mem_of_getElem? (i := 168) rfl)) (by decide +kernel)), (tG_of (tb3 (List.mem_of_getElem? (i := 169) rfl)) (by decide +kernel)), (tG_of (tb3 (List.mem_of_getElem? (i := 170) rfl)) (by decide +kernel)), (tG_of (tb1 (List.mem_of_getElem? (i := 1) rfl)) (by decide +kernel)), (tG_of (tb3 (List.mem_of_getElem? (i := 171) rfl)) (by decide +kernel)), ⟨by decide, by decide, by decide +kernel⟩, by decide⟩
set_option maxRecDepth 100000 in
theorem mvL_171 : mV R_law 171 mX11_image 0 := ⟨(tG_of (tb7 (List.mem_of_getElem? (i := 173) rfl)) (by decide +kernel)), (tG_of (tb7 (List.mem_of_getElem? (i := 174) rfl)) (by decide +kernel)), (tG_of (tb7 (List.mem_of_getElem? (i := 175) rfl)) (by decide +kernel)), (tG_of (tb1 (List.mem_of_getElem? (i := 12) rfl)) (by decide +kernel)), (tG_of (tb7 (List.mem_of_getElem? (i := 176) rfl)) (by decide +kernel)), ⟨by decide, by decide, by decide +kernel⟩, by decide⟩
set_option maxRecDepth 100000 in
theorem mvL_172 : mV R_law 172 mX10_back 0 := ⟨(tG_of (tb3 (List.mem_of_getElem? (i := 178) rfl)) (by decide +kernel)), (tG_of (tb3 (List.mem_of_getElem? (i := 179) rfl)) (by decide +kernel)), (tG_of (tb3 (List.mem_of_getElem? (i := 180) rfl)) (by decide +kernel)), (tG_of (tb1 (List.mem_of_getElem? (i := 1) rfl)) (by decide +kernel)), (tG_of (tb3 (List.mem_of_getElem? (i := 181) rfl)) (by decide +kernel)), ⟨by decide, by decide, by decide +kernel⟩, by decide⟩
set_option maxRecDepth 100000 in
theorem mvL_175 : mV R_law 175 mX11_back 0 := ⟨(tG_of (tb7 (List.mem_of_getElem? (i := 181) rfl)) (by decide +kernel)), (tG_of (tb7 (List.mem_of_getElem? (i := 182) rfl)) (by decide +kernel)), (tG_of (tb7 (List.mem_of_getElem? (i := 183) rfl)) (by decide +kernel)), (tG_of (tb1 (List.mem_of_getElem? (i := 12) rfl)) (by decide +kernel)), (tG_of (tb7 (List.mem_of_getElem? (i := 184) rfl)) (by decide +kernel)), ⟨by decide, by decide, by decide +kernel⟩, by decide⟩
set_option maxRecDepth 100000 in
theorem mvL_176 : mV R_law 176 mX10_count 1 := ⟨(tG_of (tb3 (List.mem_of_getElem? (i := 192) rfl)) (by decide +kernel)), (tG_of (tb3 (List.mem_of_getElem? (i := 193) rfl)) (by decide +kernel)), (tG_of (tb3 (List.mem_of_getElem? (i := 194) rfl)) (by decide +kernel)), (tG_of (tb1 (List.mem_of_getElem? (i := 1) rfl)) (by decide +kernel)), (tG_of (tb3 (List.mem_of_getElem? (i := 195) rfl)) (by decide +kernel)), ⟨by decide, by decide, by decide +kernel⟩, by decide⟩
set_option maxRecDepth 100000 in
theorem mvL_179 : mV R_law 179 mX11_count 1 := ⟨(tG_of (tb7 (List.mem_of_getElem? (i := 185) rfl)) (by decide +kernel)), (tG_of (tb7 (List.mem_of_getElem? (i := 186) rfl)) (by decide +kernel)), (tG_of (tb7 (List.mem_of_getElem? (i := 187) rfl)) (by decide +kernel)), (tG_of (tb1 (List.mem_of_getElem? (i := 12) rfl)) (by decide +kernel)), (tG_of (tb7 (List.mem_of_getElem? (i := 188) rfl)) (by decide +kernel)), ⟨by decide, by decide, by decide +kernel⟩, by decide⟩
set_option maxRecDepth 100000 in
theorem mvL_19 : mV R_law 19 mX10_feed 5 := ⟨(tG_of (tb2 (List.mem_of_getElem? (i := 142) rfl)) (by decide +kernel)), (tG_of (tb2 (List.mem_of_getElem? (i := 143) rfl)) (by decide +kernel)), (tG_of (tb2 (List.mem_of_getElem? (i := 144) rfl)) (by decide +kernel)), (tG_of (tb1 (List.mem_of_getElem? (i := 1) rfl)) (by decide +kernel)), (tG_of (tb2 (List.mem_of_getElem? (i := 145) rfl)) (by decide +kernel)), ⟨by decide, by decide, by decide +kernel⟩, by decide⟩
set_option maxRecDepth 100000 in
theorem mvL_23 : mV R_law 23 mX11_feed 5 := ⟨(tG_of (tb6 (List.mem_of_getElem? (i := 31) rfl)) (by decide +kernel)), (tG_of (tb6 (List.mem_of_getElem? (i := 32) rfl)) (by decide +kernel)), (tG_of (tb6 (List.mem_of_getElem? (i := 33) rfl)) (by decide +kernel)), (tG_of (tb1 (List.mem_of_getElem? (i := 12) rfl)) (by decide +kernel)), (tG_of (tb6 (List.mem_of_getElem? (i := 34) rfl)) (by decide +kernel)), ⟨by decide, by decide, by decide +kernel⟩, by decide⟩
set_option maxRecDepth 100000 in
theorem mvL_24 : mV R_law 24 mX10_end 1 := ⟨(tG_of (tb2 (List.mem_of_getElem? (i := 153) rfl)) (by decide +kernel)), (tG_of (tb2 (List.mem_of_getElem? (i := 154) rfl)) (by decide +kernel)), (tG_of (tb2 (List.mem_of_getElem? (i := 155) rfl)) (by decide +kernel)), (tG_of (tb1 (List.mem_of_getElem? (i := 1) rfl)) (by decide +kernel)), (tG_of (tb2 (List.mem_of_getElem? (i := 156) rfl)) (by decide +kernel)), ⟨by decide, by decide, by decide +kernel⟩, by decide⟩
set_option maxRecDepth 100000 in
theorem mvL_28 : mV R_law 28 mX11_end 1 := ⟨(tG_of (tb6 (List.mem_of_getElem? (i := 38) rfl)) (by decide +kernel)), (tG_of (tb6 (List.mem_of_getElem? (i := 39) rfl)) (by decide +kernel)), (tG_of (tb6 (List.mem_of_getElem? (i := 40) rfl)) (by decide +kernel)), (tG_of (tb1 (List.mem_of_getElem? (i := 12) rfl)) (by decide +kernel)), (tG_of (tb6 (List.mem_of_getElem? (i := 41) rfl)) (by decide +kernel)), ⟨by decide, by decide, by decide +kernel⟩, by decide⟩
set_option maxRecDepth 100000 in
theorem mvL_29 : mV R_law 29 mX10_fault 1 := ⟨(tG_of (tb2 (List.mem_of_getElem? (i := 161) rfl)) (by decide +kernel)), (tG_of (tb2 (List.mem_of_getElem? (i := 162) rfl)) (by decide +kernel)), (tG_of (tb2 (List.mem_of_getElem? (i := 163) rfl)) (by decide +kernel)), (tG_of (tb1 (List.mem_of_getElem? (i := 1) rfl)) (by decide +kernel)), (tG_of (tb2 (List.mem_of_getElem? (i := 164) rfl)) (by decide +kernel)), ⟨by decide, by decide, by decide +kernel⟩, by decide⟩
set_option maxRecDepth 100000 in
theorem mvL_32 : mV R_law 32 mX11_fault 1 := ⟨(tG_of (tb6 (List.mem_of_getElem? (i := 42) rfl)) (by decide +kernel)), (tG_of (tb6 (List.mem_of_getElem? (i := 43) rfl)) (by decide +kernel)), (tG_of (tb6 (List.mem_of_getElem? (i := 44) rfl)) (by decide +kernel)), (tG_of (tb1 (List.mem_of_getElem? (i := 12) rfl)) (by decide +kernel)), (tG_of (tb6 (List.mem_of_getElem? (i := 45) rfl)) (by decide +kernel)), ⟨by decide, by decide, by decide +kernel⟩, by decide⟩
set_option maxRecDepth 100000 in
theorem mvL_33 : mV R_law 33 mX10_text 1 := ⟨(tG_of (tb3 (List.mem_of_getElem? (i := 74) rfl)) (by decide +kernel)), (tG_of (tb3 (List.mem_of_getElem? (i := 75) rfl)) (by decide +kernel)), (tG_of (tb3 (List.mem_of_getElem? (i := 76) rfl)) (by decide +kernel)), (tG_of (tb1 (List.mem_of_getElem? (i := 1) rfl)) (by decide +kernel)), (tG_of (tb3 (List.mem_of_getElem? (i := 77) rfl)) (by decide +kernel)), ⟨by decide, by decide, by decide +kernel⟩, by decide⟩
set_option maxRecDepth 100000 in
theorem mvL_36 : mV R_law 36 mX11_text 1 := ⟨(tG_of (tb6 (List.mem_of_getElem? (i := 156) rfl)) (by decide +kernel)), (tG_of (tb6 (List.mem_of_getElem? (i := 157) rfl)) (by decide +kernel)), (tG_of (tb6 (List.mem_of_getElem? (i := 158) rfl)) (by decide +kernel)), (tG_of (tb1 (List.mem_of_getElem? (i := 12) rfl)) (by decide +kernel)), (tG_of (tb6 (List.mem_of_getElem? (i := 159) rfl)) (by decide +kernel)), ⟨by decide, by decide, by decide +kernel⟩, by decide⟩
set_option maxRecDepth 100000 in
theorem mvL_42 : mV R_law 42 mX11_crank 1 := ⟨(tG_of (tb6 (List.mem_of_getElem? (i := 169) rfl)) (by decide +kernel)), (tG_of (tb6 (List.mem_of_getElem? (i := 170) rfl)) (by decide +kernel)), (tG_of (tb6 (List.mem_of_getElem? (i := 171) rfl)) (by decide +kernel)), (tG_of (tb1 (List.mem_of_getElem? (i := 12) rfl)) (by decide +kernel)), (tG_of (tb6 (List.mem_of_getElem? (i := 172) rfl)) (by decide +kernel)), ⟨by decide, by decide, by decide +kernel⟩, by decide⟩
set_option maxRecDepth 100000 in
theorem mvL_43 : mV R_law 43 mX10_at 1 := ⟨(tG_of (tb3 (List.mem_of_getElem? (i := 98) rfl)) (by decide +kernel)), (tG_of (tb3 (List.mem_of_getElem? (i := 99) rfl)) (by decide +kernel)), (tG_of (tb3 (List.mem_of_getElem? (i := 100) rfl)) (by decide +kernel)), (tG_of (tb1 (List.mem_of_getElem? (i := 1) rfl)) (by decide +kernel)), (tG_of (tb3 (List.mem_of_getElem? (i := 101) rfl)) (by decide +kernel)), ⟨by decide, by decide, by decide +kernel⟩, by decide⟩
set_option maxRecDepth 100000 in
theorem mvL_46 : mV R_law 46 mX11_at 1 := ⟨(tG_of (tb6 (List.mem_of_getElem? (i := 181) rfl)) (by decide +kernel)), (tG_of (tb6 (List.mem_of_getElem? (i := 182) rfl)) (by decide +kernel)), (tG_of (tb6 (List.mem_of_getElem? (i := 183) rfl)) (by decide +kernel)), (tG_of (tb1 (List.mem_of_getElem? (i := 12) rfl)) (by decide +kernel)), (tG_of (tb6 (List.mem_of_getElem? (i := 184) rfl)) (by decide +kernel)), ⟨by decide, by decide, by decide +kernel⟩, by decide⟩
set_option maxRecDepth 100000 in
theorem mvL_47 : mV R_law 47 mX10_way 2 := ⟨(tG_of (tb3 (List.mem_of_getElem? (i := 106) rfl)) (by decide +kernel)), (tG_of (tb3 (List.mem_of_getElem? (i := 107) rfl)) (by decide +kernel)), (tG_of (tb3 (List.mem_of_getElem? (i := 108) rfl)) (by decide +kernel)), (tG_of (tb1 (List.mem_of_getElem? (i := 1) rfl)) (by decide +kernel)), (tG_of (tb3 (List.mem_of_getElem? (i := 109) rfl)) (by decide +kernel)), ⟨by decide, by decide, by decide +kernel⟩, by decide⟩
set_option maxRecDepth 100000 in
theorem mvL_51 : mV R_law 51 mX11_way 2 := ⟨(tG_of (tb6 (List.mem_of_getElem? (i := 185) rfl)) (by decide +kernel)), (tG_of (tb6 (List.mem_of_getElem? (i := 186) rfl)) (by decide +kernel)), (tG_of (tb6 (List.mem_of_getElem? (i := 187) rfl)) (by decide +kernel)), (tG_of (tb1 (List.mem_of_getElem? (i := 12) rfl)) (by decide +kernel)), (tG_of (tb6 (List.mem_of_getElem? (i := 188) rfl)) (by decide +kernel)), ⟨by decide, by decide, by decide +kernel⟩, by decide⟩
set_option maxRecDepth 100000 in
theorem mvL_52 : mV R_law 52 mX10_cue 3 := ⟨(tG_of (tb3 (List.mem_of_getElem? (i := 197) rfl)) (by decide +kernel)), (tG_of (tb3 (List.mem_of_getElem? (i := 198) rfl)) (by decide +kernel)), (tG_of (tb3 (List.mem_of_getElem? (i := 199) rfl)) (by decide +kernel)), (tG_of (tb1 (List.mem_of_getElem? (i := 1) rfl)) (by decide +kernel)), (tG_of (tb3 (List.mem_of_getElem? (i := 200) rfl)) (by decide +kernel)), ⟨by decide, by decide, by decide +kernel⟩, by decide⟩
set_option maxRecDepth 100000 in
theorem mvL_56 : mV R_law 56 mX11_cue 3 := ⟨(tG_of (tb6 (List.mem_of_getElem? (i := 201) rfl)) (by decide +kernel)), (tG_of (tb6 (List.mem_of_getElem? (i := 202) rfl)) (by decide +kernel)), (tG_of (tb6 (List.mem_of_getElem? (i := 203) rfl)) (by decide +kernel)), (tG_of (tb1 (List.mem_of_getElem? (i := 12) rfl)) (by decide +kernel)), (tG_of (tb6 (List.mem_of_getElem? (i := 204) rfl)) (by decide +kernel)), ⟨by decide, by decide, by decide +kernel⟩, by decide⟩
set_option maxRecDepth 100000 in
theorem mvL_57 : mV R_law 57 mX10_set 2 := ⟨(tG_of (tb3 (List.mem_of_getElem? (i := 127) rfl)) (by decide +kernel)), (tG_of (tb3 (List.mem_of_getElem? (i := 128) rfl)) (by decide +kernel)), (tG_of (tb3 (List.mem_of_getElem? (i := 129) rfl)) (by decide +kernel)), (tG_of (tb1 (List.mem_of_getElem? (i := 1) rfl)) (by decide +kernel)), (tG_of (tb3 (List.mem_of_getElem? (i := 130) rfl)) (by decide +kernel)), ⟨by decide, by decide, by decide +kernel⟩, by decide⟩
set_option maxRecDepth 100000 in
theorem mvL_61 : mV R_law 61 mX11_set 2 := ⟨(tG_of (tb6 (List.mem_of_getElem? (i := 233) rfl)) (by decide +kernel)), (tG_of (tb6 (List.mem_of_getElem? (i := 234) rfl)) (by decide +kernel)), (tG_of (tb6 (List.mem_of_getElem? (i := 235) rfl)) (by decide +kernel)), (tG_of (tb1 (List.mem_of_getElem? (i := 12) rfl)) (by decide +kernel)), (tG_of (tb6 (List.mem_of_getElem? (i := 236) rfl)) (by decide +kernel)), ⟨by decide, by decide, by decide +kernel⟩, by decide⟩
set_option maxRecDepth 100000 in
theorem mvL_62 : mV R_law 62 mX10_wind 2 := ⟨(tG_of (tb3 (List.mem_of_getElem? (i := 143) rfl)) (by decide +kernel)), (tG_of (tb3 (List.mem_of_getElem? (i := 144) rfl)) (by decide +kernel)), (tG_of (tb3 (List.mem_of_getElem? (i := 145) rfl)) (by decide +kernel)), (tG_of (tb1 (List.mem_of_getElem? (i := 1) rfl)) (by decide +kernel)), (tG_of (tb3 (List.mem_of_getElem? (i := 146) rfl)) (by decide +kernel)), ⟨by decide, by decide, by decide +kernel⟩, by decide⟩
set_option maxRecDepth 100000 in
theorem mvL_65 : mV R_law 65 mX11_wind 2 := ⟨(tG_of (tb6 (List.mem_of_getElem? (i := 237) rfl)) (by decide +kernel)), (tG_of (tb6 (List.mem_of_getElem? (i := 238) rfl)) (by decide +kernel)), (tG_of (tb6 (List.mem_of_getElem? (i := 239) rfl)) (by decide +kernel)), (tG_of (tb1 (List.mem_of_getElem? (i := 12) rfl)) (by decide +kernel)), (tG_of (tb7 (List.mem_of_getElem? (i := 0) rfl)) (by decide +kernel)), ⟨by decide, by decide, by decide +kernel⟩, by decide⟩
set_option maxRecDepth 100000 in
theorem mvL_66 : mV R_law 66 mX10_swap 2 := ⟨(tG_of (tb3 (List.mem_of_getElem? (i := 151) rfl)) (by decide +kernel)), (tG_of (tb3 (List.mem_of_getElem? (i := 152) rfl)) (by decide +kernel)), (tG_of (tb3 (List.mem_of_getElem? (i := 153) rfl)) (by decide +kernel)), (tG_of (tb1 (List.mem_of_getElem? (i := 1) rfl)) (by decide +kernel)), (tG_of (tb3 (List.mem_of_getElem? (i := 154) rfl)) (by decide +kernel)), ⟨by decide, by decide, by decide +kernel⟩, by decide⟩
set_option maxRecDepth 100000 in
theorem mvL_69 : mV R_law 69 mX11_swap 2 := ⟨(tG_of (tb7 (List.mem_of_getElem? (i := 1) rfl)) (by decide +kernel)), (tG_of (tb7 (List.mem_of_getElem? (i := 2) rfl)) (by decide +kernel)), (tG_of (tb7 (List.mem_of_getElem? (i := 3) rfl)) (by decide +kernel)), (tG_of (tb1 (List.mem_of_getElem? (i := 12) rfl)) (by decide +kernel)), (tG_of (tb7 (List.mem_of_getElem? (i := 4) rfl)) (by decide +kernel)), ⟨by decide, by decide, by decide +kernel⟩, by decide⟩
set_option maxRecDepth 100000 in
theorem mvL_70 : mV R_law 70 mX10_knock 1 := ⟨(tG_of (tb3 (List.mem_of_getElem? (i := 159) rfl)) (by decide +kernel)), (tG_of (tb3 (List.mem_of_getElem? (i := 160) rfl)) (by decide +kernel)), (tG_of (tb3 (List.mem_of_getElem? (i := 161) rfl)) (by decide +kernel)), (tG_of (tb1 (List.mem_of_getElem? (i := 1) rfl)) (by decide +kernel)), (tG_of (tb3 (List.mem_of_getElem? (i := 162) rfl)) (by decide +kernel)), ⟨by decide, by decide, by decide +kernel⟩, by decide⟩
set_option maxRecDepth 100000 in
theorem mvL_73 : mV R_law 73 mX11_knock 1 := ⟨(tG_of (tb7 (List.mem_of_getElem? (i := 9) rfl)) (by decide +kernel)), (tG_of (tb7 (List.mem_of_getElem? (i := 10) rfl)) (by decide +kernel)), (tG_of (tb7 (List.mem_of_getElem? (i := 11) rfl)) (by decide +kernel)), (tG_of (tb1 (List.mem_of_getElem? (i := 12) rfl)) (by decide +kernel)), (tG_of (tb7 (List.mem_of_getElem? (i := 12) rfl)) (by decide +kernel)), ⟨by decide, by decide, by decide +kernel⟩, by decide⟩
set_option maxRecDepth 100000 in
theorem mvL_74 : mV R_law 74 mX10_order 3 := ⟨(tG_of (tb3 (List.mem_of_getElem? (i := 220) rfl)) (by decide +kernel)), (tG_of (tb3 (List.mem_of_getElem? (i := 221) rfl)) (by decide +kernel)), (tG_of (tb3 (List.mem_of_getElem? (i := 222) rfl)) (by decide +kernel)), (tG_of (tb1 (List.mem_of_getElem? (i := 1) rfl)) (by decide +kernel)), (tG_of (tb3 (List.mem_of_getElem? (i := 223) rfl)) (by decide +kernel)), ⟨by decide, by decide, by decide +kernel⟩, by decide⟩
set_option maxRecDepth 100000 in
theorem mvL_77 : mV R_law 77 mX11_order 3 := ⟨(tG_of (tb7 (List.mem_of_getElem? (i := 13) rfl)) (by decide +kernel)), (tG_of (tb7 (List.mem_of_getElem? (i := 14) rfl)) (by decide +kernel)), (tG_of (tb7 (List.mem_of_getElem? (i := 15) rfl)) (by decide +kernel)), (tG_of (tb1 (List.mem_of_getElem? (i := 12) rfl)) (by decide +kernel)), (tG_of (tb7 (List.mem_of_getElem? (i := 16) rfl)) (by decide +kernel)), ⟨by decide, by decide, by decide +kernel⟩, by decide⟩
set_option maxRecDepth 100000 in
theorem mvL_78 : mV R_law 78 mX10_done 4 := ⟨(tG_of (tb4 (List.mem_of_getElem? (i := 39) rfl)) (by decide +kernel)), (tG_of (tb4 (List.mem_of_getElem? (i := 40) rfl)) (by decide +kernel)), (tG_of (tb4 (List.mem_of_getElem? (i := 41) rfl)) (by decide +kernel)), (tG_of (tb1 (List.mem_of_getElem? (i := 1) rfl)) (by decide +kernel)), (tG_of (tb4 (List.mem_of_getElem? (i := 42) rfl)) (by decide +kernel)), ⟨by decide, by decide, by decide +kernel⟩, by decide⟩
set_option maxRecDepth 100000 in
theorem mvL_82 : mV R_law 82 mX11_done 4 := ⟨(tG_of (tb7 (List.mem_of_getElem? (i := 48) rfl)) (by decide +kernel)), (tG_of (tb7 (List.mem_of_getElem? (i := 49) rfl)) (by decide +kernel)), (tG_of (tb7 (List.mem_of_getElem? (i := 50) rfl)) (by decide +kernel)), (tG_of (tb1 (List.mem_of_getElem? (i := 12) rfl)) (by decide +kernel)), (tG_of (tb7 (List.mem_of_getElem? (i := 51) rfl)) (by decide +kernel)), ⟨by decide, by decide, by decide +kernel⟩, by decide⟩
set_option maxRecDepth 100000 in
theorem mvL_83 : mV R_law 83 mX10_where 3 := ⟨(tG_of (tb4 (List.mem_of_getElem? (i := 43) rfl)) (by decide +kernel)), (tG_of (tb4 (List.mem_of_getElem? (i := 44) rfl)) (by decide +kernel)), (tG_of (tb4 (List.mem_of_getElem? (i := 45) rfl)) (by decide +kernel)), (tG_of (tb1 (List.mem_of_getElem? (i := 1) rfl)) (by decide +kernel)), (tG_of (tb4 (List.mem_of_getElem? (i := 46) rfl)) (by decide +kernel)), ⟨by decide, by decide, by decide +kernel⟩, by decide⟩
set_option maxRecDepth 100000 in
theorem mvL_86 : mV R_law 86 mX11_where 3 := ⟨(tG_of (tb7 (List.mem_of_getElem? (i := 52) rfl)) (by decide +kernel)), (tG_of (tb7 (List.mem_of_getElem? (i := 53) rfl)) (by decide +kernel)), (tG_of (tb7 (List.mem_of_getElem? (i := 54) rfl)) (by decide +kernel)), (tG_of (tb1 (List.mem_of_getElem? (i := 12) rfl)) (by decide +kernel)), (tG_of (tb7 (List.mem_of_getElem? (i := 55) rfl)) (by decide +kernel)), ⟨by decide, by decide, by decide +kernel⟩, by decide⟩
set_option maxRecDepth 100000 in
theorem mvL_87 : mV R_law 87 mX10_best 3 := ⟨(tG_of (tb4 (List.mem_of_getElem? (i := 58) rfl)) (by decide +kernel)), (tG_of (tb4 (List.mem_of_getElem? (i := 59) rfl)) (by decide +kernel)), (tG_of (tb4 (List.mem_of_getElem? (i := 60) rfl)) (by decide +kernel)), (tG_of (tb1 (List.mem_of_getElem? (i := 1) rfl)) (by decide +kernel)), (tG_of (tb4 (List.mem_of_getElem? (i := 61) rfl)) (by decide +kernel)), ⟨by decide, by decide, by decide +kernel⟩, by decide⟩
set_option maxRecDepth 100000 in
theorem mvL_90 : mV R_law 90 mX11_best 3 := ⟨(tG_of (tb7 (List.mem_of_getElem? (i := 56) rfl)) (by decide +kernel)), (tG_of (tb7 (List.mem_of_getElem? (i := 57) rfl)) (by decide +kernel)), (tG_of (tb7 (List.mem_of_getElem? (i := 58) rfl)) (by decide +kernel)), (tG_of (tb1 (List.mem_of_getElem? (i := 12) rfl)) (by decide +kernel)), (tG_of (tb7 (List.mem_of_getElem? (i := 59) rfl)) (by decide +kernel)), ⟨by decide, by decide, by decide +kernel⟩, by decide⟩
set_option maxRecDepth 100000 in
theorem mvL_91 : mV R_law 91 mX10_met 2 := ⟨(tG_of (tb4 (List.mem_of_getElem? (i := 106) rfl)) (by decide +kernel)), (tG_of (tb4 (List.mem_of_getElem? (i := 107) rfl)) (by decide +kernel)), (tG_of (tb4 (List.mem_of_getElem? (i := 108) rfl)) (by decide +kernel)), (tG_of (tb1 (List.mem_of_getElem? (i := 1) rfl)) (by decide +kernel)), (tG_of (tb4 (List.mem_of_getElem? (i := 109) rfl)) (by decide +kernel)), ⟨by decide, by decide, by decide +kernel⟩, by decide⟩
set_option maxRecDepth 100000 in
theorem mvL_94 : mV R_law 94 mX11_met 2 := ⟨(tG_of (tb7 (List.mem_of_getElem? (i := 72) rfl)) (by decide +kernel)), (tG_of (tb7 (List.mem_of_getElem? (i := 73) rfl)) (by decide +kernel)), (tG_of (tb7 (List.mem_of_getElem? (i := 74) rfl)) (by decide +kernel)), (tG_of (tb1 (List.mem_of_getElem? (i := 12) rfl)) (by decide +kernel)), (tG_of (tb7 (List.mem_of_getElem? (i := 75) rfl)) (by decide +kernel)), ⟨by decide, by decide, by decide +kernel⟩, by decide⟩
set_option maxRecDepth 100000 in
theorem mvL_95 : mV R_law 95 mX10_knot 1 := ⟨(tG_of (tb4 (List.mem_of_getElem? (i := 123) rfl)) (by decide +kernel)), (tG_of (tb4 (List.mem_of_getElem? (i := 124) rfl)) (by decide +kernel)), (tG_of (tb4 (List.mem_of_getElem? (i := 125) rfl)) (by decide +kernel)), (tG_of (tb1 (List.mem_of_getElem? (i := 1) rfl)) (by decide +kernel)), (tG_of (tb4 (List.mem_of_getElem? (i := 126) rfl)) (by decide +kernel)), ⟨by decide, by decide, by decide +kernel⟩, by decide⟩
set_option maxRecDepth 100000 in
theorem mvL_98 : mV R_law 98 mX11_knot 1 := ⟨(tG_of (tb7 (List.mem_of_getElem? (i := 76) rfl)) (by decide +kernel)), (tG_of (tb7 (List.mem_of_getElem? (i := 77) rfl)) (by decide +kernel)), (tG_of (tb7 (List.mem_of_getElem? (i := 78) rfl)) (by decide +kernel)), (tG_of (tb1 (List.mem_of_getElem? (i := 12) rfl)) (by decide +kernel)), (tG_of (tb7 (List.mem_of_getElem? (i := 79) rfl)) (by decide +kernel)), ⟨by decide, by decide, by decide +kernel⟩, by decide⟩
set_option maxRecDepth 100000 in
theorem mvL_99 : mV R_law 99 mX10_age 1 := ⟨(tG_of (tb4 (List.mem_of_getElem? (i := 133) rfl)) (by decide +kernel)), (tG_of (tb4 (List.mem_of_getElem? (i := 134) rfl)) (by decide +kernel)), (tG_of (tb4 (List.mem_of_getElem? (i := 135) rfl)) (by decide +kernel)), (tG_of (tb1 (List.mem_of_getElem? (i := 1) rfl)) (by decide +kernel)), (tG_of (tb4 (List.mem_of_getElem? (i := 136) rfl)) (by decide +kernel)), ⟨by decide, by decide, by decide +kernel⟩, by decide⟩
/-- one call of the face: both systems answer alike, and what couples them holds behind it -/
def sI (Inv Inv' : Mm → Prop) (f g : Mm → Rs) : Prop := ∀ μ, Inv μ → ∃ r μ1 μ2, f μ = some (r, μ1) ∧ g μ1 = some (r, μ2) ∧ Inv' μ2
def sD (Inv Inv' : Mm → Prop) (f g : Mm → Rs) : Prop := ∀ μ, Inv μ → ∃ r μ1 r2 μ2, f μ = some (r, μ1) ∧ g μ1 = some (r2, μ2) ∧ Inv' μ2
def sC (Inv Inv' : Mm → Prop) : Prop := ∀ a, rI a → ∀ μ, Inv μ → ∃ w μ1 b μ2, X0_placeOf 5 a μ = some (w, μ1) ∧ X11_crank a μ1 = some (b, μ2) ∧ Inv' μ2
def s_feed (Inv Inv' : Mm → Prop) : Prop := ∀ a0, rI a0 → ∀ a1, rI a1 → ∀ a2, rI a2 → ∀ a3, rI a3 → ∀ a4, rI a4 → sD Inv Inv' (X10_feed a0 a1 a2 a3 a4) (X11_feed a0 a1 a2 a3 a4)
def s_end (Inv Inv' : Mm → Prop) : Prop := ∀ a0, rI a0 → sD Inv Inv' (X10_end a0) (X11_end a0)
def s_fault (Inv Inv' : Mm → Prop) : Prop := ∀ a0, rI a0 → sD Inv Inv' (X10_fault a0) (X11_fault a0)
def s_text (Inv Inv' : Mm → Prop) : Prop := ∀ a0, rI a0 → sD Inv Inv' (X10_text a0) (X11_text a0)
def s_at (Inv Inv' : Mm → Prop) : Prop := ∀ a0, rI a0 → sD Inv Inv' (X10_at a0) (X11_at a0)
def s_way (Inv Inv' : Mm → Prop) : Prop := ∀ a0, rI a0 → ∀ a1, rI a1 → sD Inv Inv' (X10_way a0 a1) (X11_way a0 a1)
def s_cue (Inv Inv' : Mm → Prop) : Prop := ∀ a0, rI a0 → ∀ a1, rI a1 → ∀ a2, rI a2 → sD Inv Inv' (X10_cue a0 a1 a2) (X11_cue a0 a1 a2)
def s_set (Inv Inv' : Mm → Prop) : Prop := ∀ a0, rI a0 → ∀ a1, rI a1 → sD Inv Inv' (X10_set a0 a1) (X11_set a0 a1)
def s_wind (Inv Inv' : Mm → Prop) : Prop := ∀ a0, rI a0 → ∀ a1, rI a1 → sD Inv Inv' (X10_wind a0 a1) (X11_wind a0 a1)
def s_swap (Inv Inv' : Mm → Prop) : Prop := ∀ a0, rI a0 → ∀ a1, rI a1 → sD Inv Inv' (X10_swap a0 a1) (X11_swap a0 a1)
def s_knock (Inv Inv' : Mm → Prop) : Prop := ∀ a0, rI a0 → sD Inv Inv' (X10_knock a0) (X11_knock a0)
def s_order (Inv Inv' : Mm → Prop) : Prop := ∀ a0, rI a0 → ∀ a1, rI a1 → ∀ a2, rI a2 → sD Inv Inv' (X10_order a0 a1 a2) (X11_order a0 a1 a2)
def s_done (Inv Inv' : Mm → Prop) : Prop := ∀ a0, rI a0 → ∀ a1, rI a1 → ∀ a2, rI a2 → ∀ a3, rI a3 → sD Inv Inv' (X10_done a0 a1 a2 a3) (X11_done a0 a1 a2 a3)
def s_where (Inv Inv' : Mm → Prop) : Prop := ∀ a0, rI a0 → ∀ a1, rI a1 → ∀ a2, rI a2 → sD Inv Inv' (X10_where a0 a1 a2) (X11_where a0 a1 a2)
def s_best (Inv Inv' : Mm → Prop) : Prop := ∀ a0, rI a0 → ∀ a1, rI a1 → ∀ a2, rI a2 → sD Inv Inv' (X10_best a0 a1 a2) (X11_best a0 a1 a2)
def s_met (Inv Inv' : Mm → Prop) : Prop := ∀ a0, rI a0 → ∀ a1, rI a1 → sD Inv Inv' (X10_met a0 a1) (X11_met a0 a1)
def s_knot (Inv Inv' : Mm → Prop) : Prop := ∀ a0, rI a0 → sD Inv Inv' (X10_knot a0) (X11_knot a0)
def s_age (Inv Inv' : Mm → Prop) : Prop := ∀ a0, rI a0 → sD Inv Inv' (X10_age a0) (X11_age a0)
def s_first (Inv Inv' : Mm → Prop) : Prop := sD Inv Inv' (X10_first) (X11_first)
def s_post (Inv Inv' : Mm → Prop) : Prop := ∀ a0, rI a0 → ∀ a1, rI a1 → sD Inv Inv' (X10_post a0 a1) (X11_post a0 a1)
def s_rope (Inv Inv' : Mm → Prop) : Prop := ∀ a0, rI a0 → ∀ a1, rI a1 → sD Inv Inv' (X10_rope a0 a1) (X11_rope a0 a1)
def s_exchange (Inv Inv' : Mm → Prop) : Prop := ∀ a0, rI a0 → ∀ a1, rI a1 → ∀ a2, rI a2 → sD Inv Inv' (X10_exchange a0 a1 a2) (X11_exchange a0 a1 a2)
def s_skip (Inv Inv' : Mm → Prop) : Prop := ∀ a0, rI a0 → ∀ a1, rI a1 → ∀ a2, rI a2 → sD Inv Inv' (X10_skip a0 a1 a2) (X11_skip a0 a1 a2)
def s_nights (Inv Inv' : Mm → Prop) : Prop := ∀ a0, rI a0 → ∀ a1, rI a1 → ∀ a2, rI a2 → sD Inv Inv' (X10_nights a0 a1 a2) (X11_nights a0 a1 a2)
def s_thud (Inv Inv' : Mm → Prop) : Prop := ∀ a0, rI a0 → ∀ a1, rI a1 → sD Inv Inv' (X10_thud a0 a1) (X11_thud a0 a1)
def s_fit (Inv Inv' : Mm → Prop) : Prop := ∀ a0, rI a0 → ∀ a1, rI a1 → sI Inv Inv' (X10_fit a0 a1) (X11_fit a0 a1)
def s_boy (Inv Inv' : Mm → Prop) : Prop := ∀ a0, rI a0 → ∀ a1, rI a1 → ∀ a2, rI a2 → ∀ a3, rI a3 → sD Inv Inv' (X10_boy a0 a1 a2 a3) (X11_boy a0 a1 a2 a3)
def s_out (Inv Inv' : Mm → Prop) : Prop := ∀ a0, rI a0 → sD Inv Inv' (X10_out a0) (X11_out a0)
def s_walk (Inv Inv' : Mm → Prop) : Prop := ∀ a0, rI a0 → ∀ a1, rI a1 → ∀ a2, rI a2 → sD Inv Inv' (X10_walk a0 a1 a2) (X11_walk a0 a1 a2)
def s_mend (Inv Inv' : Mm → Prop) : Prop := ∀ a0, rI a0 → ∀ a1, rI a1 → ∀ a2, rI a2 → sD Inv Inv' (X10_mend a0 a1 a2) (X11_mend a0 a1 a2)
def s_slack (Inv Inv' : Mm → Prop) : Prop := ∀ a0, rI a0 → ∀ a1, rI a1 → sD Inv Inv' (X10_slack a0 a1) (X11_slack a0 a1)
def s_urgent (Inv Inv' : Mm → Prop) : Prop := ∀ a0, rI a0 → sD Inv Inv' (X10_urgent a0) (X11_urgent a0)
def s_dead (Inv Inv' : Mm → Prop) : Prop := sD Inv Inv' (X10_dead) (X11_dead)
def s_pillar (Inv Inv' : Mm → Prop) : Prop := ∀ a0, rI a0 → ∀ a1, rI a1 → sD Inv Inv' (X10_pillar a0 a1) (X11_pillar a0 a1)
def s_image (Inv Inv' : Mm → Prop) : Prop := sD Inv Inv' (X10_image) (X11_image)
def s_back (Inv Inv' : Mm → Prop) : Prop := sD Inv Inv' (X10_back) (X11_back)
def s_count (Inv Inv' : Mm → Prop) : Prop := ∀ a0, rI a0 → sD Inv Inv' (X10_count a0) (X11_count a0)
def sAll (Inv Inv' : Mm → Prop) : Prop := (∀ μ, Inv μ → Inv' μ) ∧ sC Inv Inv' ∧ s_feed Inv Inv' ∧ s_end Inv Inv' ∧ s_fault Inv Inv' ∧ s_text Inv Inv' ∧ s_at Inv Inv' ∧ s_way Inv Inv' ∧ s_cue Inv Inv' ∧ s_set Inv Inv' ∧ s_wind Inv Inv' ∧ s_swap Inv Inv' ∧ s_knock Inv Inv' ∧ s_order Inv Inv' ∧ s_done Inv Inv' ∧ s_where Inv Inv' ∧ s_best Inv Inv' ∧ s_met Inv Inv' ∧ s_knot Inv Inv' ∧ s_age Inv Inv' ∧ s_first Inv Inv' ∧ s_post Inv Inv' ∧ s_rope Inv Inv' ∧ s_exchange Inv Inv' ∧ s_skip Inv Inv' ∧ s_nights Inv Inv' ∧ s_thud Inv Inv' ∧ s_fit Inv Inv' ∧ s_boy Inv Inv' ∧ s_out Inv Inv' ∧ s_walk Inv Inv' ∧ s_mend Inv Inv' ∧ s_slack Inv Inv' ∧ s_urgent Inv Inv' ∧ s_dead Inv Inv' ∧ s_pillar Inv Inv' ∧ s_image Inv Inv' ∧ s_back Inv Inv' ∧ s_count Inv Inv'

/-- the law's own crank, open: its two ways back -/
def HCr : Prop := ∀ (L : Nat) (sc : Nat → Int) (ls : List (Option AV)) (μ μ1 : Mm) (v : Int64) (k n : Nat) (a w : Int), X0_placeOf 5 a μ = some (w, μ1) → k + 1 ≤ 601024 → n + 10 ≤ 7293034 →
  (∀ v' : Int64, w = -1 → LL L sc 367 ls [vI 1] μ1 v' (k + 1) (n + 10)) → (w ≠ -1 → LL L sc 367 ls [vI 0] μ1 (Int64.ofInt w) (k + 1) (n + 10)) → LL L sc 364 ls [vR 98, vI a, vR 0] μ v k n
section LR2
variable {L : Nat} {sc : Nat → Int} {pc q : Nat} {ls : List (Option AV)} {st : List AV} {μ : Mm} {v : Int64} {k n : Nat}
theorem L_laload (hd : decode code pc = .ok (.laload, 1)) (hq : pc + 1 = q) (kk : LL L sc q ls (vL v.toInt :: st) μ v k n) : LL L sc pc ls (vI 0 :: vR 98 :: st) μ v k n := by
  subst hq
  intro p l e s m below meth c b xs H locs dC dI D cL ad ls' X hxs hH hL hS hn hl hs
  have kk2 := kk p l e s m below meth c b xs H locs dC dI D cL ad ls' X hxs hH hL hS hn hl (ok_c (v := vL v.toInt) (rL_of v) (ok_t (ok_t hs)))
  have hP1 : va_P (dC, dI) vwCl [(ad 98, .inl (cL, 1, .inr (.inl (fun _ => v))))] H := by
    intro k q hk
    match k, hk with
    | 0, hk => cases hk; exact hL.1
    | k + 1, hk => simp at hk
  refine va_lald X.1.1 X.1.2.1 X.2.2.1 hP1 0 3 rfl rfl (i := Int32.ofInt 0) (o32_in rI_0 (by decide)) hd ?_
  have e1 : (vL v.toInt :: st).map (cV ad) = .long v :: st.map (cV ad) := by
    show Value.long (Int64.ofInt v.toInt) :: _ = _
    rw [Int64.ofInt_toInt]
  rw [e1] at kk2
  exact kk2
theorem L_pop {v1 : AV} (hd : decode code pc = .ok (.pop, 1)) (hv : c1 v1) (hq : pc + 1 = q) (kk : LL L sc q ls st μ v k n) : LL L sc pc ls (v1 :: st) μ v k n := by
  subst hq
  refine LL_pure (st2 := st) (fun h => ok_t h) (fun p l e R s m args below meth c H locs k n Q ad ls' hx hb h kk => ?_) kk
  exact lv_pop hx hb hd (c1_cat hv ad) kk
theorem L_i2l {a : Int} (hd : decode code pc = .ok (.i2l, 1)) (hq : pc + 1 = q) (kk : LL L sc q ls (vL a :: st) μ v k n) : LL L sc pc ls (vI a :: st) μ v k n := by
  subst hq
  refine LL_pure (st2 := vL a :: st) (fun h => ok_c (rI_rL (ok_h h)) (ok_t h)) (fun p l e R s m args below meth c H locs k n Q ad ls' hx hb h kk => ?_) kk
  exact lv_i2l hx hb hd (o32_i2l (ok_h h)) kk
theorem L_lcmp {a b : Int} (hd : decode code pc = .ok (.lcmp, 1)) (hq : pc + 1 = q) (kk : LL L sc q ls (vI (lC a b) :: st) μ v k n) : LL L sc pc ls (vL b :: vL a :: st) μ v k n := by
  subst hq
  intro p l e s m below meth c b' xs H locs dC dI D cL ad ls' X hxs hH hL hS hn hl hs
  exact W.lcmp (pc := pc) (ls := ls') (rest := st.map (cV ad)) (x := Int64.ofInt a) (y := Int64.ofInt b) X.1.1 X.1.2.1 hd (by
    rw [o32_lcmp (ok_h (ok_t hs)) (ok_h hs)]
    exact kk p l e s m below meth c b' xs H locs dC dI D cL ad ls' X hxs hH hL hS hn hl (ok_c (v := vI (lC a b)) (by simp only [oV, rI, lC]; split <;> (try split) <;> omega) (ok_t (ok_t hs))))
theorem L_ifeq {a : Int} {off : Int} (hd : decode code pc = .ok (.ifCond .eq off, 3)) (ht : (pc : Int) + off = (q : Int)) {q2 : Nat} (hq : pc + 3 = q2) (kt : a = 0 → LL L sc q ls st μ v k n) (kf : ¬ a = 0 → LL L sc q2 ls st μ v k n) : LL L sc pc ls (vI a :: st) μ v k n := by
  subst hq
  refine LL_br (st2 := st) (fun h => ok_t h) (fun p l e R s m args below meth c H locs k n Q ad ls' hx hb h k1 k2 => ?_) kt kf
  exact lv_if_eq hx hb hd ht (fun z => k1 ((o32_eq (ok_h h) rI_0).mp z)) (fun z => k2 (fun w => z ((o32_eq (ok_h h) rI_0).mpr w)))
theorem L_ifne {a : Int} {off : Int} (hd : decode code pc = .ok (.ifCond .ne off, 3)) (ht : (pc : Int) + off = (q : Int)) {q2 : Nat} (hq : pc + 3 = q2) (kt : ¬ a = 0 → LL L sc q ls st μ v k n) (kf : a = 0 → LL L sc q2 ls st μ v k n) : LL L sc pc ls (vI a :: st) μ v k n := by
  subst hq
  refine LL_br (st2 := st) (fun h => ok_t h) (fun p l e R s m args below meth c H locs k n Q ad ls' hx hb h k1 k2 => ?_) kf kt
  exact lv_if_ne hx hb hd ht (fun z => k2 (fun w => z ((o32_eq (ok_h h) rI_0).mpr w))) (fun z => k1 ((o32_eq (ok_h h) rI_0).mp z))
end LR2

set_option maxHeartbeats 4000000 in
set_option maxRecDepth 100000 in
theorem law_case_feed {Inv Inv' : Mm → Prop} (hst : s_feed Inv Inv') {L i : Nat} {sc : Nat → Int} {μ : Mm} {v : Int64} {k n : Nat} (hL : L ≤ 3072) (hi : i + 6 ≤ L) (hsc : ∀ j, rI (sc j)) (hI : Inv μ) (hk : k ≤ 500000 ∧ n ≤ 5000000) (hgo : ∀ μ2, Inv' μ2 → LL L sc 1581 [some (vR 99), some (vR 0), some (vR 70), some (vR 98), some (vI (i : Int)), none, none] [] μ2 v k n) : LL L sc 208 [some (vR 99), some (vR 0), some (vR 70), some (vR 98), some (vI (i : Int)), none, none] [] μ v k n := by
  have e_1 : iA (i : Int) 1 = ((i + 1 : Nat) : Int) := by rw [iA, wI_id (by omega) (by omega)]; omega
  have e_2 : iA (i : Int) 2 = ((i + 2 : Nat) : Int) := by rw [iA, wI_id (by omega) (by omega)]; omega
  have e_3 : iA (i : Int) 3 = ((i + 3 : Nat) : Int) := by rw [iA, wI_id (by omega) (by omega)]; omega
  have e_4 : iA (i : Int) 4 = ((i + 4 : Nat) : Int) := by rw [iA, wI_id (by omega) (by omega)]; omega
  have e_5 : iA (i : Int) 5 = ((i + 5 : Nat) : Int) := by rw [iA, wI_id (by omega) (by omega)]; omega
  obtain ⟨r, μ1, r2, μ2, hf, hg, hI⟩ := hst (sc (((i + 1 : Nat) : Int).toNat)) (hsc _) (sc (((i + 2 : Nat) : Int).toNat)) (hsc _) (sc (((i + 3 : Nat) : Int).toNat)) (hsc _) (sc (((i + 4 : Nat) : Int).toNat)) (hsc _) (sc (((i + 5 : Nat) : Int).toNat)) (hsc _) μ hI
  refine L_aload_n (q := 209) dL_law_208 rfl rfl rfl ?_
  refine L_aload_n (q := 210) dL_law_209 rfl rfl rfl ?_
  refine L_iload (q := 212) dL_law_210 rfl rfl ?_
  refine L_iconst (q := 213) dL_law_212 rfl rfl ?_
  refine L_iadd (q := 214) dL_law_213 rfl ?_
  rw [e_1]
  refine L_sld (q := 215) dL_law_214 (by omega) rfl ?_
  refine L_aload_n (q := 216) dL_law_215 rfl rfl rfl ?_
  refine L_iload (q := 218) dL_law_216 rfl rfl ?_
  refine L_iconst (q := 219) dL_law_218 rfl rfl ?_
  refine L_iadd (q := 220) dL_law_219 rfl ?_
  rw [e_2]
  refine L_sld (q := 221) dL_law_220 (by omega) rfl ?_
  refine L_aload_n (q := 222) dL_law_221 rfl rfl rfl ?_
  refine L_iload (q := 224) dL_law_222 rfl rfl ?_
  refine L_iconst (q := 225) dL_law_224 rfl rfl ?_
  refine L_iadd (q := 226) dL_law_225 rfl ?_
  rw [e_3]
  refine L_sld (q := 227) dL_law_226 (by omega) rfl ?_
  refine L_aload_n (q := 228) dL_law_227 rfl rfl rfl ?_
  refine L_iload (q := 230) dL_law_228 rfl rfl ?_
  refine L_iconst (q := 231) dL_law_230 rfl rfl ?_
  refine L_iadd (q := 232) dL_law_231 rfl ?_
  rw [e_4]
  refine L_sld (q := 233) dL_law_232 (by omega) rfl ?_
  refine L_aload_n (q := 234) dL_law_233 rfl rfl rfl ?_
  refine L_iload (q := 236) dL_law_234 rfl rfl ?_
  refine L_iconst (q := 237) dL_law_236 rfl rfl ?_
  refine L_iadd (q := 238) dL_law_237 rfl ?_
  rw [e_5]
  refine L_sld (q := 239) dL_law_238 (by omega) rfl ?_
  refine L_call (q := 242) (vI r) (kX10_feed 2 (by decide) hf) (by decide) mvL_19 (rfl : kD 0 = (10 + 10, 18)) rfl rfl rfl rfl rfl (by omega) dL_law_239 rfl ?_
  refine L_pop (q := 243) dL_law_242 trivial rfl ?_
  refine L_aload_n (q := 244) dL_law_243 rfl rfl rfl ?_
  refine L_aload_n (q := 245) dL_law_244 rfl rfl rfl ?_
  refine L_iload (q := 247) dL_law_245 rfl rfl ?_
  refine L_iconst (q := 248) dL_law_247 rfl rfl ?_
  refine L_iadd (q := 249) dL_law_248 rfl ?_
  rw [e_1]
  refine L_sld (q := 250) dL_law_249 (by omega) rfl ?_
  refine L_aload_n (q := 251) dL_law_250 rfl rfl rfl ?_
  refine L_iload (q := 253) dL_law_251 rfl rfl ?_
  refine L_iconst (q := 254) dL_law_253 rfl rfl ?_
  refine L_iadd (q := 255) dL_law_254 rfl ?_
  rw [e_2]
  refine L_sld (q := 256) dL_law_255 (by omega) rfl ?_
  refine L_aload_n (q := 257) dL_law_256 rfl rfl rfl ?_
  refine L_iload (q := 259) dL_law_257 rfl rfl ?_
  refine L_iconst (q := 260) dL_law_259 rfl rfl ?_
  refine L_iadd (q := 261) dL_law_260 rfl ?_
  rw [e_3]
  refine L_sld (q := 262) dL_law_261 (by omega) rfl ?_
  refine L_aload_n (q := 263) dL_law_262 rfl rfl rfl ?_
  refine L_iload (q := 265) dL_law_263 rfl rfl ?_
  refine L_iconst (q := 266) dL_law_265 rfl rfl ?_
  refine L_iadd (q := 267) dL_law_266 rfl ?_
  rw [e_4]
  refine L_sld (q := 268) dL_law_267 (by omega) rfl ?_
  refine L_aload_n (q := 269) dL_law_268 rfl rfl rfl ?_
  refine L_iload (q := 271) dL_law_269 rfl rfl ?_
  refine L_iconst (q := 272) dL_law_271 rfl rfl ?_
  refine L_iadd (q := 273) dL_law_272 rfl ?_
  rw [e_5]
  refine L_sld (q := 274) dL_law_273 (by omega) rfl ?_
  refine L_call (q := 277) (vI r2) (kX11_feed 2 (by decide) hg) (by decide) mvL_23 (rfl : kD 70 = (11 + 10, 54)) rfl rfl rfl rfl rfl (by omega) dL_law_274 rfl ?_
  refine L_pop (q := 278) dL_law_277 trivial rfl ?_
  refine L_goto (q := 1581) dL_law_278 (by decide) ?_
  exact hgo _ hI

set_option maxHeartbeats 4000000 in
set_option maxRecDepth 100000 in
theorem law_case_end {Inv Inv' : Mm → Prop} (hst : s_end Inv Inv') {L i : Nat} {sc : Nat → Int} {μ : Mm} {v : Int64} {k n : Nat} (hL : L ≤ 3072) (hi : i + 6 ≤ L) (hsc : ∀ j, rI (sc j)) (hI : Inv μ) (hk : k ≤ 500000 ∧ n ≤ 5000000) (hgo : ∀ μ2, Inv' μ2 → LL L sc 1581 [some (vR 99), some (vR 0), some (vR 70), some (vR 98), some (vI (i : Int)), none, none] [] μ2 v k n) : LL L sc 281 [some (vR 99), some (vR 0), some (vR 70), some (vR 98), some (vI (i : Int)), none, none] [] μ v k n := by
  have e_1 : iA (i : Int) 1 = ((i + 1 : Nat) : Int) := by rw [iA, wI_id (by omega) (by omega)]; omega
  obtain ⟨r, μ1, r2, μ2, hf, hg, hI⟩ := hst (sc (((i + 1 : Nat) : Int).toNat)) (hsc _) μ hI
  refine L_aload_n (q := 282) dL_law_281 rfl rfl rfl ?_
  refine L_aload_n (q := 283) dL_law_282 rfl rfl rfl ?_
  refine L_iload (q := 285) dL_law_283 rfl rfl ?_
  refine L_iconst (q := 286) dL_law_285 rfl rfl ?_
  refine L_iadd (q := 287) dL_law_286 rfl ?_
  rw [e_1]
  refine L_sld (q := 288) dL_law_287 (by omega) rfl ?_
  refine L_call (q := 291) (vI r) (kX10_end 2 (by decide) hf) (by decide) mvL_24 (rfl : kD 0 = (10 + 10, 18)) rfl rfl rfl rfl rfl (by omega) dL_law_288 rfl ?_
  refine L_pop (q := 292) dL_law_291 trivial rfl ?_
  refine L_aload_n (q := 293) dL_law_292 rfl rfl rfl ?_
  refine L_aload_n (q := 294) dL_law_293 rfl rfl rfl ?_
  refine L_iload (q := 296) dL_law_294 rfl rfl ?_
  refine L_iconst (q := 297) dL_law_296 rfl rfl ?_
  refine L_iadd (q := 298) dL_law_297 rfl ?_
  rw [e_1]
  refine L_sld (q := 299) dL_law_298 (by omega) rfl ?_
  refine L_call (q := 302) (vI r2) (kX11_end 1 (by decide) hg) (by decide) mvL_28 (rfl : kD 70 = (11 + 10, 54)) rfl rfl rfl rfl rfl (by omega) dL_law_299 rfl ?_
  refine L_pop (q := 303) dL_law_302 trivial rfl ?_
  refine L_goto (q := 1581) dL_law_303 (by decide) ?_
  exact hgo _ hI

set_option maxHeartbeats 4000000 in
set_option maxRecDepth 100000 in
theorem law_case_fault {Inv Inv' : Mm → Prop} (hst : s_fault Inv Inv') {L i : Nat} {sc : Nat → Int} {μ : Mm} {v : Int64} {k n : Nat} (hL : L ≤ 3072) (hi : i + 6 ≤ L) (hsc : ∀ j, rI (sc j)) (hI : Inv μ) (hk : k ≤ 500000 ∧ n ≤ 5000000) (hgo : ∀ μ2, Inv' μ2 → LL L sc 1581 [some (vR 99), some (vR 0), some (vR 70), some (vR 98), some (vI (i : Int)), none, none] [] μ2 v k n) : LL L sc 306 [some (vR 99), some (vR 0), some (vR 70), some (vR 98), some (vI (i : Int)), none, none] [] μ v k n := by
  have e_1 : iA (i : Int) 1 = ((i + 1 : Nat) : Int) := by rw [iA, wI_id (by omega) (by omega)]; omega
  obtain ⟨r, μ1, r2, μ2, hf, hg, hI⟩ := hst (sc (((i + 1 : Nat) : Int).toNat)) (hsc _) μ hI
  refine L_aload_n (q := 307) dL_law_306 rfl rfl rfl ?_
  refine L_aload_n (q := 308) dL_law_307 rfl rfl rfl ?_
  refine L_iload (q := 310) dL_law_308 rfl rfl ?_
  refine L_iconst (q := 311) dL_law_310 rfl rfl ?_
  refine L_iadd (q := 312) dL_law_311 rfl ?_
  rw [e_1]
  refine L_sld (q := 313) dL_law_312 (by omega) rfl ?_
  refine L_call (q := 316) (vI r) (kX10_fault 272 (by decide) hf) (by decide) mvL_29 (rfl : kD 0 = (10 + 10, 18)) rfl rfl rfl rfl rfl (by omega) dL_law_313 rfl ?_
  refine L_pop (q := 317) dL_law_316 trivial rfl ?_
  refine L_aload_n (q := 318) dL_law_317 rfl rfl rfl ?_
  refine L_aload_n (q := 319) dL_law_318 rfl rfl rfl ?_
  refine L_iload (q := 321) dL_law_319 rfl rfl ?_
  refine L_iconst (q := 322) dL_law_321 rfl rfl ?_
  refine L_iadd (q := 323) dL_law_322 rfl ?_
  rw [e_1]
  refine L_sld (q := 324) dL_law_323 (by omega) rfl ?_
  refine L_call (q := 327) (vI r2) (kX11_fault 273 (by decide) hg) (by decide) mvL_32 (rfl : kD 70 = (11 + 10, 54)) rfl rfl rfl rfl rfl (by omega) dL_law_324 rfl ?_
  refine L_pop (q := 328) dL_law_327 trivial rfl ?_
  refine L_goto (q := 1581) dL_law_328 (by decide) ?_
  exact hgo _ hI

set_option maxHeartbeats 4000000 in
set_option maxRecDepth 100000 in
theorem law_case_text {Inv Inv' : Mm → Prop} (hst : s_text Inv Inv') {L i : Nat} {sc : Nat → Int} {μ : Mm} {v : Int64} {k n : Nat} (hL : L ≤ 3072) (hi : i + 6 ≤ L) (hsc : ∀ j, rI (sc j)) (hI : Inv μ) (hk : k ≤ 500000 ∧ n ≤ 5000000) (hgo : ∀ μ2, Inv' μ2 → LL L sc 1581 [some (vR 99), some (vR 0), some (vR 70), some (vR 98), some (vI (i : Int)), none, none] [] μ2 v k n) : LL L sc 331 [some (vR 99), some (vR 0), some (vR 70), some (vR 98), some (vI (i : Int)), none, none] [] μ v k n := by
  have e_1 : iA (i : Int) 1 = ((i + 1 : Nat) : Int) := by rw [iA, wI_id (by omega) (by omega)]; omega
  obtain ⟨r, μ1, r2, μ2, hf, hg, hI⟩ := hst (sc (((i + 1 : Nat) : Int).toNat)) (hsc _) μ hI
  refine L_aload_n (q := 332) dL_law_331 rfl rfl rfl ?_
  refine L_aload_n (q := 333) dL_law_332 rfl rfl rfl ?_
  refine L_iload (q := 335) dL_law_333 rfl rfl ?_
  refine L_iconst (q := 336) dL_law_335 rfl rfl ?_
  refine L_iadd (q := 337) dL_law_336 rfl ?_
  rw [e_1]
  refine L_sld (q := 338) dL_law_337 (by omega) rfl ?_
  refine L_call (q := 341) (vI r) (kX10_text 272 (by decide) hf) (by decide) mvL_33 (rfl : kD 0 = (10 + 10, 18)) rfl rfl rfl rfl rfl (by omega) dL_law_338 rfl ?_
  refine L_pop (q := 342) dL_law_341 trivial rfl ?_
  refine L_aload_n (q := 343) dL_law_342 rfl rfl rfl ?_
  refine L_aload_n (q := 344) dL_law_343 rfl rfl rfl ?_
  refine L_iload (q := 346) dL_law_344 rfl rfl ?_
  refine L_iconst (q := 347) dL_law_346 rfl rfl ?_
  refine L_iadd (q := 348) dL_law_347 rfl ?_
  rw [e_1]
  refine L_sld (q := 349) dL_law_348 (by omega) rfl ?_
  refine L_call (q := 352) (vI r2) (kX11_text 273 (by decide) hg) (by decide) mvL_36 (rfl : kD 70 = (11 + 10, 54)) rfl rfl rfl rfl rfl (by omega) dL_law_349 rfl ?_
  refine L_pop (q := 353) dL_law_352 trivial rfl ?_
  refine L_goto (q := 1581) dL_law_353 (by decide) ?_
  exact hgo _ hI

set_option maxHeartbeats 4000000 in
set_option maxRecDepth 100000 in
theorem law_case_at {Inv Inv' : Mm → Prop} (hst : s_at Inv Inv') {L i : Nat} {sc : Nat → Int} {μ : Mm} {v : Int64} {k n : Nat} (hL : L ≤ 3072) (hi : i + 6 ≤ L) (hsc : ∀ j, rI (sc j)) (hI : Inv μ) (hk : k ≤ 500000 ∧ n ≤ 5000000) (hgo : ∀ μ2, Inv' μ2 → LL L sc 1581 [some (vR 99), some (vR 0), some (vR 70), some (vR 98), some (vI (i : Int)), none, none] [] μ2 v k n) : LL L sc 384 [some (vR 99), some (vR 0), some (vR 70), some (vR 98), some (vI (i : Int)), none, none] [] μ v k n := by
  have e_1 : iA (i : Int) 1 = ((i + 1 : Nat) : Int) := by rw [iA, wI_id (by omega) (by omega)]; omega
  obtain ⟨r, μ1, r2, μ2, hf, hg, hI⟩ := hst (sc (((i + 1 : Nat) : Int).toNat)) (hsc _) μ hI
  refine L_aload_n (q := 385) dL_law_384 rfl rfl rfl ?_
  refine L_aload_n (q := 386) dL_law_385 rfl rfl rfl ?_
  refine L_iload (q := 388) dL_law_386 rfl rfl ?_
  refine L_iconst (q := 389) dL_law_388 rfl rfl ?_
  refine L_iadd (q := 390) dL_law_389 rfl ?_
  rw [e_1]
  refine L_sld (q := 391) dL_law_390 (by omega) rfl ?_
  refine L_call (q := 394) (vI r) (kX10_at 2 (by decide) hf) (by decide) mvL_43 (rfl : kD 0 = (10 + 10, 18)) rfl rfl rfl rfl rfl (by omega) dL_law_391 rfl ?_
  refine L_pop (q := 395) dL_law_394 trivial rfl ?_
  refine L_aload_n (q := 396) dL_law_395 rfl rfl rfl ?_
  refine L_aload_n (q := 397) dL_law_396 rfl rfl rfl ?_
  refine L_iload (q := 399) dL_law_397 rfl rfl ?_
  refine L_iconst (q := 400) dL_law_399 rfl rfl ?_
  refine L_iadd (q := 401) dL_law_400 rfl ?_
  rw [e_1]
  refine L_sld (q := 402) dL_law_401 (by omega) rfl ?_
  refine L_call (q := 405) (vI r2) (kX11_at 2 (by decide) hg) (by decide) mvL_46 (rfl : kD 70 = (11 + 10, 54)) rfl rfl rfl rfl rfl (by omega) dL_law_402 rfl ?_
  refine L_pop (q := 406) dL_law_405 trivial rfl ?_
  refine L_goto (q := 1581) dL_law_406 (by decide) ?_
  exact hgo _ hI

set_option maxHeartbeats 4000000 in
set_option maxRecDepth 100000 in
theorem law_case_way {Inv Inv' : Mm → Prop} (hst : s_way Inv Inv') {L i : Nat} {sc : Nat → Int} {μ : Mm} {v : Int64} {k n : Nat} (hL : L ≤ 3072) (hi : i + 6 ≤ L) (hsc : ∀ j, rI (sc j)) (hI : Inv μ) (hk : k ≤ 500000 ∧ n ≤ 5000000) (hgo : ∀ μ2, Inv' μ2 → LL L sc 1581 [some (vR 99), some (vR 0), some (vR 70), some (vR 98), some (vI (i : Int)), none, none] [] μ2 v k n) : LL L sc 409 [some (vR 99), some (vR 0), some (vR 70), some (vR 98), some (vI (i : Int)), none, none] [] μ v k n := by
  have e_1 : iA (i : Int) 1 = ((i + 1 : Nat) : Int) := by rw [iA, wI_id (by omega) (by omega)]; omega
  have e_2 : iA (i : Int) 2 = ((i + 2 : Nat) : Int) := by rw [iA, wI_id (by omega) (by omega)]; omega
  obtain ⟨r, μ1, r2, μ2, hf, hg, hI⟩ := hst (sc (((i + 1 : Nat) : Int).toNat)) (hsc _) (sc (((i + 2 : Nat) : Int).toNat)) (hsc _) μ hI
  refine L_aload_n (q := 410) dL_law_409 rfl rfl rfl ?_
  refine L_aload_n (q := 411) dL_law_410 rfl rfl rfl ?_
  refine L_iload (q := 413) dL_law_411 rfl rfl ?_
  refine L_iconst (q := 414) dL_law_413 rfl rfl ?_
  refine L_iadd (q := 415) dL_law_414 rfl ?_
  rw [e_1]
  refine L_sld (q := 416) dL_law_415 (by omega) rfl ?_
  refine L_aload_n (q := 417) dL_law_416 rfl rfl rfl ?_
  refine L_iload (q := 419) dL_law_417 rfl rfl ?_
  refine L_iconst (q := 420) dL_law_419 rfl rfl ?_
  refine L_iadd (q := 421) dL_law_420 rfl ?_
  rw [e_2]
  refine L_sld (q := 422) dL_law_421 (by omega) rfl ?_
  refine L_call (q := 425) (vI r) (kX10_way 4 (by decide) hf) (by decide) mvL_47 (rfl : kD 0 = (10 + 10, 18)) rfl rfl rfl rfl rfl (by omega) dL_law_422 rfl ?_
  refine L_pop (q := 426) dL_law_425 trivial rfl ?_
  refine L_aload_n (q := 427) dL_law_426 rfl rfl rfl ?_
  refine L_aload_n (q := 428) dL_law_427 rfl rfl rfl ?_
  refine L_iload (q := 430) dL_law_428 rfl rfl ?_
  refine L_iconst (q := 431) dL_law_430 rfl rfl ?_
  refine L_iadd (q := 432) dL_law_431 rfl ?_
  rw [e_1]
  refine L_sld (q := 433) dL_law_432 (by omega) rfl ?_
  refine L_aload_n (q := 434) dL_law_433 rfl rfl rfl ?_
  refine L_iload (q := 436) dL_law_434 rfl rfl ?_
  refine L_iconst (q := 437) dL_law_436 rfl rfl ?_
  refine L_iadd (q := 438) dL_law_437 rfl ?_
  rw [e_2]
  refine L_sld (q := 439) dL_law_438 (by omega) rfl ?_
  refine L_call (q := 442) (vI r2) (kX11_way 4 (by decide) hg) (by decide) mvL_51 (rfl : kD 70 = (11 + 10, 54)) rfl rfl rfl rfl rfl (by omega) dL_law_439 rfl ?_
  refine L_pop (q := 443) dL_law_442 trivial rfl ?_
  refine L_goto (q := 1581) dL_law_443 (by decide) ?_
  exact hgo _ hI

set_option maxHeartbeats 4000000 in
set_option maxRecDepth 100000 in
theorem law_case_cue {Inv Inv' : Mm → Prop} (hst : s_cue Inv Inv') {L i : Nat} {sc : Nat → Int} {μ : Mm} {v : Int64} {k n : Nat} (hL : L ≤ 3072) (hi : i + 6 ≤ L) (hsc : ∀ j, rI (sc j)) (hI : Inv μ) (hk : k ≤ 500000 ∧ n ≤ 5000000) (hgo : ∀ μ2, Inv' μ2 → LL L sc 1581 [some (vR 99), some (vR 0), some (vR 70), some (vR 98), some (vI (i : Int)), none, none] [] μ2 v k n) : LL L sc 446 [some (vR 99), some (vR 0), some (vR 70), some (vR 98), some (vI (i : Int)), none, none] [] μ v k n := by
  have e_1 : iA (i : Int) 1 = ((i + 1 : Nat) : Int) := by rw [iA, wI_id (by omega) (by omega)]; omega
  have e_2 : iA (i : Int) 2 = ((i + 2 : Nat) : Int) := by rw [iA, wI_id (by omega) (by omega)]; omega
  have e_3 : iA (i : Int) 3 = ((i + 3 : Nat) : Int) := by rw [iA, wI_id (by omega) (by omega)]; omega
  obtain ⟨r, μ1, r2, μ2, hf, hg, hI⟩ := hst (sc (((i + 1 : Nat) : Int).toNat)) (hsc _) (sc (((i + 2 : Nat) : Int).toNat)) (hsc _) (sc (((i + 3 : Nat) : Int).toNat)) (hsc _) μ hI
  refine L_aload_n (q := 447) dL_law_446 rfl rfl rfl ?_
  refine L_aload_n (q := 448) dL_law_447 rfl rfl rfl ?_
  refine L_iload (q := 450) dL_law_448 rfl rfl ?_
  refine L_iconst (q := 451) dL_law_450 rfl rfl ?_
  refine L_iadd (q := 452) dL_law_451 rfl ?_
  rw [e_1]
  refine L_sld (q := 453) dL_law_452 (by omega) rfl ?_
  refine L_aload_n (q := 454) dL_law_453 rfl rfl rfl ?_
  refine L_iload (q := 456) dL_law_454 rfl rfl ?_
  refine L_iconst (q := 457) dL_law_456 rfl rfl ?_
  refine L_iadd (q := 458) dL_law_457 rfl ?_
  rw [e_2]
  refine L_sld (q := 459) dL_law_458 (by omega) rfl ?_
  refine L_aload_n (q := 460) dL_law_459 rfl rfl rfl ?_
  refine L_iload (q := 462) dL_law_460 rfl rfl ?_
  refine L_iconst (q := 463) dL_law_462 rfl rfl ?_
  refine L_iadd (q := 464) dL_law_463 rfl ?_
  rw [e_3]
  refine L_sld (q := 465) dL_law_464 (by omega) rfl ?_
  refine L_call (q := 468) (vI r) (kX10_cue 271 (by decide) hf) (by decide) mvL_52 (rfl : kD 0 = (10 + 10, 18)) rfl rfl rfl rfl rfl (by omega) dL_law_465 rfl ?_
  refine L_pop (q := 469) dL_law_468 trivial rfl ?_
  refine L_aload_n (q := 470) dL_law_469 rfl rfl rfl ?_
  refine L_aload_n (q := 471) dL_law_470 rfl rfl rfl ?_
  refine L_iload (q := 473) dL_law_471 rfl rfl ?_
  refine L_iconst (q := 474) dL_law_473 rfl rfl ?_
  refine L_iadd (q := 475) dL_law_474 rfl ?_
  rw [e_1]
  refine L_sld (q := 476) dL_law_475 (by omega) rfl ?_
  refine L_aload_n (q := 477) dL_law_476 rfl rfl rfl ?_
  refine L_iload (q := 479) dL_law_477 rfl rfl ?_
  refine L_iconst (q := 480) dL_law_479 rfl rfl ?_
  refine L_iadd (q := 481) dL_law_480 rfl ?_
  rw [e_2]
  refine L_sld (q := 482) dL_law_481 (by omega) rfl ?_
  refine L_aload_n (q := 483) dL_law_482 rfl rfl rfl ?_
  refine L_iload (q := 485) dL_law_483 rfl rfl ?_
  refine L_iconst (q := 486) dL_law_485 rfl rfl ?_
  refine L_iadd (q := 487) dL_law_486 rfl ?_
  rw [e_3]
  refine L_sld (q := 488) dL_law_487 (by omega) rfl ?_
  refine L_call (q := 491) (vI r2) (kX11_cue 6 (by decide) hg) (by decide) mvL_56 (rfl : kD 70 = (11 + 10, 54)) rfl rfl rfl rfl rfl (by omega) dL_law_488 rfl ?_
  refine L_pop (q := 492) dL_law_491 trivial rfl ?_
  refine L_goto (q := 1581) dL_law_492 (by decide) ?_
  exact hgo _ hI

set_option maxHeartbeats 4000000 in
set_option maxRecDepth 100000 in
theorem law_case_set {Inv Inv' : Mm → Prop} (hst : s_set Inv Inv') {L i : Nat} {sc : Nat → Int} {μ : Mm} {v : Int64} {k n : Nat} (hL : L ≤ 3072) (hi : i + 6 ≤ L) (hsc : ∀ j, rI (sc j)) (hI : Inv μ) (hk : k ≤ 500000 ∧ n ≤ 5000000) (hgo : ∀ μ2, Inv' μ2 → LL L sc 1581 [some (vR 99), some (vR 0), some (vR 70), some (vR 98), some (vI (i : Int)), none, none] [] μ2 v k n) : LL L sc 495 [some (vR 99), some (vR 0), some (vR 70), some (vR 98), some (vI (i : Int)), none, none] [] μ v k n := by
  have e_1 : iA (i : Int) 1 = ((i + 1 : Nat) : Int) := by rw [iA, wI_id (by omega) (by omega)]; omega
  have e_2 : iA (i : Int) 2 = ((i + 2 : Nat) : Int) := by rw [iA, wI_id (by omega) (by omega)]; omega
  obtain ⟨r, μ1, r2, μ2, hf, hg, hI⟩ := hst (sc (((i + 1 : Nat) : Int).toNat)) (hsc _) (sc (((i + 2 : Nat) : Int).toNat)) (hsc _) μ hI
  refine L_aload_n (q := 496) dL_law_495 rfl rfl rfl ?_
  refine L_aload_n (q := 497) dL_law_496 rfl rfl rfl ?_
  refine L_iload (q := 499) dL_law_497 rfl rfl ?_
  refine L_iconst (q := 500) dL_law_499 rfl rfl ?_
  refine L_iadd (q := 501) dL_law_500 rfl ?_
  rw [e_1]
  refine L_sld (q := 502) dL_law_501 (by omega) rfl ?_
  refine L_aload_n (q := 503) dL_law_502 rfl rfl rfl ?_
  refine L_iload (q := 505) dL_law_503 rfl rfl ?_
  refine L_iconst (q := 506) dL_law_505 rfl rfl ?_
  refine L_iadd (q := 507) dL_law_506 rfl ?_
  rw [e_2]
  refine L_sld (q := 508) dL_law_507 (by omega) rfl ?_
  refine L_call (q := 511) (vI r) (kX10_set 3 (by decide) hf) (by decide) mvL_57 (rfl : kD 0 = (10 + 10, 18)) rfl rfl rfl rfl rfl (by omega) dL_law_508 rfl ?_
  refine L_pop (q := 512) dL_law_511 trivial rfl ?_
  refine L_aload_n (q := 513) dL_law_512 rfl rfl rfl ?_
  refine L_aload_n (q := 514) dL_law_513 rfl rfl rfl ?_
  refine L_iload (q := 516) dL_law_514 rfl rfl ?_
  refine L_iconst (q := 517) dL_law_516 rfl rfl ?_
  refine L_iadd (q := 518) dL_law_517 rfl ?_
  rw [e_1]
  refine L_sld (q := 519) dL_law_518 (by omega) rfl ?_
  refine L_aload_n (q := 520) dL_law_519 rfl rfl rfl ?_
  refine L_iload (q := 522) dL_law_520 rfl rfl ?_
  refine L_iconst (q := 523) dL_law_522 rfl rfl ?_
  refine L_iadd (q := 524) dL_law_523 rfl ?_
  rw [e_2]
  refine L_sld (q := 525) dL_law_524 (by omega) rfl ?_
  refine L_call (q := 528) (vI r2) (kX11_set 2 (by decide) hg) (by decide) mvL_61 (rfl : kD 70 = (11 + 10, 54)) rfl rfl rfl rfl rfl (by omega) dL_law_525 rfl ?_
  refine L_pop (q := 529) dL_law_528 trivial rfl ?_
  refine L_goto (q := 1581) dL_law_529 (by decide) ?_
  exact hgo _ hI

set_option maxHeartbeats 4000000 in
set_option maxRecDepth 100000 in
theorem law_case_wind {Inv Inv' : Mm → Prop} (hst : s_wind Inv Inv') {L i : Nat} {sc : Nat → Int} {μ : Mm} {v : Int64} {k n : Nat} (hL : L ≤ 3072) (hi : i + 6 ≤ L) (hsc : ∀ j, rI (sc j)) (hI : Inv μ) (hk : k ≤ 500000 ∧ n ≤ 5000000) (hgo : ∀ μ2, Inv' μ2 → LL L sc 1581 [some (vR 99), some (vR 0), some (vR 70), some (vR 98), some (vI (i : Int)), none, none] [] μ2 v k n) : LL L sc 532 [some (vR 99), some (vR 0), some (vR 70), some (vR 98), some (vI (i : Int)), none, none] [] μ v k n := by
  have e_1 : iA (i : Int) 1 = ((i + 1 : Nat) : Int) := by rw [iA, wI_id (by omega) (by omega)]; omega
  have e_2 : iA (i : Int) 2 = ((i + 2 : Nat) : Int) := by rw [iA, wI_id (by omega) (by omega)]; omega
  obtain ⟨r, μ1, r2, μ2, hf, hg, hI⟩ := hst (sc (((i + 1 : Nat) : Int).toNat)) (hsc _) (sc (((i + 2 : Nat) : Int).toNat)) (hsc _) μ hI
  refine L_aload_n (q := 533) dL_law_532 rfl rfl rfl ?_
  refine L_aload_n (q := 534) dL_law_533 rfl rfl rfl ?_
  refine L_iload (q := 536) dL_law_534 rfl rfl ?_
  refine L_iconst (q := 537) dL_law_536 rfl rfl ?_
  refine L_iadd (q := 538) dL_law_537 rfl ?_
  rw [e_1]
  refine L_sld (q := 539) dL_law_538 (by omega) rfl ?_
  refine L_aload_n (q := 540) dL_law_539 rfl rfl rfl ?_
  refine L_iload (q := 542) dL_law_540 rfl rfl ?_
  refine L_iconst (q := 543) dL_law_542 rfl rfl ?_
  refine L_iadd (q := 544) dL_law_543 rfl ?_
  rw [e_2]
  refine L_sld (q := 545) dL_law_544 (by omega) rfl ?_
  refine L_call (q := 548) (vI r) (kX10_wind 3 (by decide) hf) (by decide) mvL_62 (rfl : kD 0 = (10 + 10, 18)) rfl rfl rfl rfl rfl (by omega) dL_law_545 rfl ?_
  refine L_pop (q := 549) dL_law_548 trivial rfl ?_
  refine L_aload_n (q := 550) dL_law_549 rfl rfl rfl ?_
  refine L_aload_n (q := 551) dL_law_550 rfl rfl rfl ?_
  refine L_iload (q := 553) dL_law_551 rfl rfl ?_
  refine L_iconst (q := 554) dL_law_553 rfl rfl ?_
  refine L_iadd (q := 555) dL_law_554 rfl ?_
  rw [e_1]
  refine L_sld (q := 556) dL_law_555 (by omega) rfl ?_
  refine L_aload_n (q := 557) dL_law_556 rfl rfl rfl ?_
  refine L_iload (q := 559) dL_law_557 rfl rfl ?_
  refine L_iconst (q := 560) dL_law_559 rfl rfl ?_
  refine L_iadd (q := 561) dL_law_560 rfl ?_
  rw [e_2]
  refine L_sld (q := 562) dL_law_561 (by omega) rfl ?_
  refine L_call (q := 565) (vI r2) (kX11_wind 4 (by decide) hg) (by decide) mvL_65 (rfl : kD 70 = (11 + 10, 54)) rfl rfl rfl rfl rfl (by omega) dL_law_562 rfl ?_
  refine L_pop (q := 566) dL_law_565 trivial rfl ?_
  refine L_goto (q := 1581) dL_law_566 (by decide) ?_
  exact hgo _ hI

set_option maxHeartbeats 4000000 in
set_option maxRecDepth 100000 in
theorem law_case_swap {Inv Inv' : Mm → Prop} (hst : s_swap Inv Inv') {L i : Nat} {sc : Nat → Int} {μ : Mm} {v : Int64} {k n : Nat} (hL : L ≤ 3072) (hi : i + 6 ≤ L) (hsc : ∀ j, rI (sc j)) (hI : Inv μ) (hk : k ≤ 500000 ∧ n ≤ 5000000) (hgo : ∀ μ2, Inv' μ2 → LL L sc 1581 [some (vR 99), some (vR 0), some (vR 70), some (vR 98), some (vI (i : Int)), none, none] [] μ2 v k n) : LL L sc 569 [some (vR 99), some (vR 0), some (vR 70), some (vR 98), some (vI (i : Int)), none, none] [] μ v k n := by
  have e_1 : iA (i : Int) 1 = ((i + 1 : Nat) : Int) := by rw [iA, wI_id (by omega) (by omega)]; omega
  have e_2 : iA (i : Int) 2 = ((i + 2 : Nat) : Int) := by rw [iA, wI_id (by omega) (by omega)]; omega
  obtain ⟨r, μ1, r2, μ2, hf, hg, hI⟩ := hst (sc (((i + 1 : Nat) : Int).toNat)) (hsc _) (sc (((i + 2 : Nat) : Int).toNat)) (hsc _) μ hI
  refine L_aload_n (q := 570) dL_law_569 rfl rfl rfl ?_
  refine L_aload_n (q := 571) dL_law_570 rfl rfl rfl ?_
  refine L_iload (q := 573) dL_law_571 rfl rfl ?_
  refine L_iconst (q := 574) dL_law_573 rfl rfl ?_
  refine L_iadd (q := 575) dL_law_574 rfl ?_
  rw [e_1]
  refine L_sld (q := 576) dL_law_575 (by omega) rfl ?_
  refine L_aload_n (q := 577) dL_law_576 rfl rfl rfl ?_
  refine L_iload (q := 579) dL_law_577 rfl rfl ?_
  refine L_iconst (q := 580) dL_law_579 rfl rfl ?_
  refine L_iadd (q := 581) dL_law_580 rfl ?_
  rw [e_2]
  refine L_sld (q := 582) dL_law_581 (by omega) rfl ?_
  refine L_call (q := 585) (vI r) (kX10_swap 3 (by decide) hf) (by decide) mvL_66 (rfl : kD 0 = (10 + 10, 18)) rfl rfl rfl rfl rfl (by omega) dL_law_582 rfl ?_
  refine L_pop (q := 586) dL_law_585 trivial rfl ?_
  refine L_aload_n (q := 587) dL_law_586 rfl rfl rfl ?_
  refine L_aload_n (q := 588) dL_law_587 rfl rfl rfl ?_
  refine L_iload (q := 590) dL_law_588 rfl rfl ?_
  refine L_iconst (q := 591) dL_law_590 rfl rfl ?_
  refine L_iadd (q := 592) dL_law_591 rfl ?_
  rw [e_1]
  refine L_sld (q := 593) dL_law_592 (by omega) rfl ?_
  refine L_aload_n (q := 594) dL_law_593 rfl rfl rfl ?_
  refine L_iload (q := 596) dL_law_594 rfl rfl ?_
  refine L_iconst (q := 597) dL_law_596 rfl rfl ?_
  refine L_iadd (q := 598) dL_law_597 rfl ?_
  rw [e_2]
  refine L_sld (q := 599) dL_law_598 (by omega) rfl ?_
  refine L_call (q := 602) (vI r2) (kX11_swap 4 (by decide) hg) (by decide) mvL_69 (rfl : kD 70 = (11 + 10, 54)) rfl rfl rfl rfl rfl (by omega) dL_law_599 rfl ?_
  refine L_pop (q := 603) dL_law_602 trivial rfl ?_
  refine L_goto (q := 1581) dL_law_603 (by decide) ?_
  exact hgo _ hI

set_option maxHeartbeats 4000000 in
set_option maxRecDepth 100000 in
theorem law_case_knock {Inv Inv' : Mm → Prop} (hst : s_knock Inv Inv') {L i : Nat} {sc : Nat → Int} {μ : Mm} {v : Int64} {k n : Nat} (hL : L ≤ 3072) (hi : i + 6 ≤ L) (hsc : ∀ j, rI (sc j)) (hI : Inv μ) (hk : k ≤ 500000 ∧ n ≤ 5000000) (hgo : ∀ μ2, Inv' μ2 → LL L sc 1581 [some (vR 99), some (vR 0), some (vR 70), some (vR 98), some (vI (i : Int)), none, none] [] μ2 v k n) : LL L sc 606 [some (vR 99), some (vR 0), some (vR 70), some (vR 98), some (vI (i : Int)), none, none] [] μ v k n := by
  have e_1 : iA (i : Int) 1 = ((i + 1 : Nat) : Int) := by rw [iA, wI_id (by omega) (by omega)]; omega
  obtain ⟨r, μ1, r2, μ2, hf, hg, hI⟩ := hst (sc (((i + 1 : Nat) : Int).toNat)) (hsc _) μ hI
  refine L_aload_n (q := 607) dL_law_606 rfl rfl rfl ?_
  refine L_aload_n (q := 608) dL_law_607 rfl rfl rfl ?_
  refine L_iload (q := 610) dL_law_608 rfl rfl ?_
  refine L_iconst (q := 611) dL_law_610 rfl rfl ?_
  refine L_iadd (q := 612) dL_law_611 rfl ?_
  rw [e_1]
  refine L_sld (q := 613) dL_law_612 (by omega) rfl ?_
  refine L_call (q := 616) (vI r) (kX10_knock 3 (by decide) hf) (by decide) mvL_70 (rfl : kD 0 = (10 + 10, 18)) rfl rfl rfl rfl rfl (by omega) dL_law_613 rfl ?_
  refine L_pop (q := 617) dL_law_616 trivial rfl ?_
  refine L_aload_n (q := 618) dL_law_617 rfl rfl rfl ?_
  refine L_aload_n (q := 619) dL_law_618 rfl rfl rfl ?_
  refine L_iload (q := 621) dL_law_619 rfl rfl ?_
  refine L_iconst (q := 622) dL_law_621 rfl rfl ?_
  refine L_iadd (q := 623) dL_law_622 rfl ?_
  rw [e_1]
  refine L_sld (q := 624) dL_law_623 (by omega) rfl ?_
  refine L_call (q := 627) (vI r2) (kX11_knock 2 (by decide) hg) (by decide) mvL_73 (rfl : kD 70 = (11 + 10, 54)) rfl rfl rfl rfl rfl (by omega) dL_law_624 rfl ?_
  refine L_pop (q := 628) dL_law_627 trivial rfl ?_
  refine L_goto (q := 1581) dL_law_628 (by decide) ?_
  exact hgo _ hI

set_option maxHeartbeats 4000000 in
set_option maxRecDepth 100000 in
theorem law_case_order {Inv Inv' : Mm → Prop} (hst : s_order Inv Inv') {L i : Nat} {sc : Nat → Int} {μ : Mm} {v : Int64} {k n : Nat} (hL : L ≤ 3072) (hi : i + 6 ≤ L) (hsc : ∀ j, rI (sc j)) (hI : Inv μ) (hk : k ≤ 500000 ∧ n ≤ 5000000) (hgo : ∀ μ2, Inv' μ2 → LL L sc 1581 [some (vR 99), some (vR 0), some (vR 70), some (vR 98), some (vI (i : Int)), none, none] [] μ2 v k n) : LL L sc 631 [some (vR 99), some (vR 0), some (vR 70), some (vR 98), some (vI (i : Int)), none, none] [] μ v k n := by
  have e_1 : iA (i : Int) 1 = ((i + 1 : Nat) : Int) := by rw [iA, wI_id (by omega) (by omega)]; omega
  have e_2 : iA (i : Int) 2 = ((i + 2 : Nat) : Int) := by rw [iA, wI_id (by omega) (by omega)]; omega
  have e_3 : iA (i : Int) 3 = ((i + 3 : Nat) : Int) := by rw [iA, wI_id (by omega) (by omega)]; omega
  obtain ⟨r, μ1, r2, μ2, hf, hg, hI⟩ := hst (sc (((i + 1 : Nat) : Int).toNat)) (hsc _) (sc (((i + 2 : Nat) : Int).toNat)) (hsc _) (sc (((i + 3 : Nat) : Int).toNat)) (hsc _) μ hI
  refine L_aload_n (q := 632) dL_law_631 rfl rfl rfl ?_
  refine L_aload_n (q := 633) dL_law_632 rfl rfl rfl ?_
  refine L_iload (q := 635) dL_law_633 rfl rfl ?_
  refine L_iconst (q := 636) dL_law_635 rfl rfl ?_
  refine L_iadd (q := 637) dL_law_636 rfl ?_
  rw [e_1]
  refine L_sld (q := 638) dL_law_637 (by omega) rfl ?_
  refine L_aload_n (q := 639) dL_law_638 rfl rfl rfl ?_
  refine L_iload (q := 641) dL_law_639 rfl rfl ?_
  refine L_iconst (q := 642) dL_law_641 rfl rfl ?_
  refine L_iadd (q := 643) dL_law_642 rfl ?_
  rw [e_2]
  refine L_sld (q := 644) dL_law_643 (by omega) rfl ?_
  refine L_aload_n (q := 645) dL_law_644 rfl rfl rfl ?_
  refine L_iload (q := 647) dL_law_645 rfl rfl ?_
  refine L_iconst (q := 648) dL_law_647 rfl rfl ?_
  refine L_iadd (q := 649) dL_law_648 rfl ?_
  rw [e_3]
  refine L_sld (q := 650) dL_law_649 (by omega) rfl ?_
  refine L_call (q := 653) (vI r) (kX10_order 273 (by decide) hf) (by decide) mvL_74 (rfl : kD 0 = (10 + 10, 18)) rfl rfl rfl rfl rfl (by omega) dL_law_650 rfl ?_
  refine L_pop (q := 654) dL_law_653 trivial rfl ?_
  refine L_aload_n (q := 655) dL_law_654 rfl rfl rfl ?_
  refine L_aload_n (q := 656) dL_law_655 rfl rfl rfl ?_
  refine L_iload (q := 658) dL_law_656 rfl rfl ?_
  refine L_iconst (q := 659) dL_law_658 rfl rfl ?_
  refine L_iadd (q := 660) dL_law_659 rfl ?_
  rw [e_1]
  refine L_sld (q := 661) dL_law_660 (by omega) rfl ?_
  refine L_aload_n (q := 662) dL_law_661 rfl rfl rfl ?_
  refine L_iload (q := 664) dL_law_662 rfl rfl ?_
  refine L_iconst (q := 665) dL_law_664 rfl rfl ?_
  refine L_iadd (q := 666) dL_law_665 rfl ?_
  rw [e_2]
  refine L_sld (q := 667) dL_law_666 (by omega) rfl ?_
  refine L_aload_n (q := 668) dL_law_667 rfl rfl rfl ?_
  refine L_iload (q := 670) dL_law_668 rfl rfl ?_
  refine L_iconst (q := 671) dL_law_670 rfl rfl ?_
  refine L_iadd (q := 672) dL_law_671 rfl ?_
  rw [e_3]
  refine L_sld (q := 673) dL_law_672 (by omega) rfl ?_
  refine L_call (q := 676) (vI r2) (kX11_order 7 (by decide) hg) (by decide) mvL_77 (rfl : kD 70 = (11 + 10, 54)) rfl rfl rfl rfl rfl (by omega) dL_law_673 rfl ?_
  refine L_pop (q := 677) dL_law_676 trivial rfl ?_
  refine L_goto (q := 1581) dL_law_677 (by decide) ?_
  exact hgo _ hI

set_option maxHeartbeats 4000000 in
set_option maxRecDepth 100000 in
theorem law_case_done {Inv Inv' : Mm → Prop} (hst : s_done Inv Inv') {L i : Nat} {sc : Nat → Int} {μ : Mm} {v : Int64} {k n : Nat} (hL : L ≤ 3072) (hi : i + 6 ≤ L) (hsc : ∀ j, rI (sc j)) (hI : Inv μ) (hk : k ≤ 500000 ∧ n ≤ 5000000) (hgo : ∀ μ2, Inv' μ2 → LL L sc 1581 [some (vR 99), some (vR 0), some (vR 70), some (vR 98), some (vI (i : Int)), none, none] [] μ2 v k n) : LL L sc 680 [some (vR 99), some (vR 0), some (vR 70), some (vR 98), some (vI (i : Int)), none, none] [] μ v k n := by
  have e_1 : iA (i : Int) 1 = ((i + 1 : Nat) : Int) := by rw [iA, wI_id (by omega) (by omega)]; omega
  have e_2 : iA (i : Int) 2 = ((i + 2 : Nat) : Int) := by rw [iA, wI_id (by omega) (by omega)]; omega
  have e_3 : iA (i : Int) 3 = ((i + 3 : Nat) : Int) := by rw [iA, wI_id (by omega) (by omega)]; omega
  have e_4 : iA (i : Int) 4 = ((i + 4 : Nat) : Int) := by rw [iA, wI_id (by omega) (by omega)]; omega
  obtain ⟨r, μ1, r2, μ2, hf, hg, hI⟩ := hst (sc (((i + 1 : Nat) : Int).toNat)) (hsc _) (sc (((i + 2 : Nat) : Int).toNat)) (hsc _) (sc (((i + 3 : Nat) : Int).toNat)) (hsc _) (sc (((i + 4 : Nat) : Int).toNat)) (hsc _) μ hI
  refine L_aload_n (q := 681) dL_law_680 rfl rfl rfl ?_
  refine L_aload_n (q := 682) dL_law_681 rfl rfl rfl ?_
  refine L_iload (q := 684) dL_law_682 rfl rfl ?_
  refine L_iconst (q := 685) dL_law_684 rfl rfl ?_
  refine L_iadd (q := 686) dL_law_685 rfl ?_
  rw [e_1]
  refine L_sld (q := 687) dL_law_686 (by omega) rfl ?_
  refine L_aload_n (q := 688) dL_law_687 rfl rfl rfl ?_
  refine L_iload (q := 690) dL_law_688 rfl rfl ?_
  refine L_iconst (q := 691) dL_law_690 rfl rfl ?_
  refine L_iadd (q := 692) dL_law_691 rfl ?_
  rw [e_2]
  refine L_sld (q := 693) dL_law_692 (by omega) rfl ?_
  refine L_aload_n (q := 694) dL_law_693 rfl rfl rfl ?_
  refine L_iload (q := 696) dL_law_694 rfl rfl ?_
  refine L_iconst (q := 697) dL_law_696 rfl rfl ?_
  refine L_iadd (q := 698) dL_law_697 rfl ?_
  rw [e_3]
  refine L_sld (q := 699) dL_law_698 (by omega) rfl ?_
  refine L_aload_n (q := 700) dL_law_699 rfl rfl rfl ?_
  refine L_iload (q := 702) dL_law_700 rfl rfl ?_
  refine L_iconst (q := 703) dL_law_702 rfl rfl ?_
  refine L_iadd (q := 704) dL_law_703 rfl ?_
  rw [e_4]
  refine L_sld (q := 705) dL_law_704 (by omega) rfl ?_
  refine L_call (q := 708) (vI r) (kX10_done 273 (by decide) hf) (by decide) mvL_78 (rfl : kD 0 = (10 + 10, 18)) rfl rfl rfl rfl rfl (by omega) dL_law_705 rfl ?_
  refine L_pop (q := 709) dL_law_708 trivial rfl ?_
  refine L_aload_n (q := 710) dL_law_709 rfl rfl rfl ?_
  refine L_aload_n (q := 711) dL_law_710 rfl rfl rfl ?_
  refine L_iload (q := 713) dL_law_711 rfl rfl ?_
  refine L_iconst (q := 714) dL_law_713 rfl rfl ?_
  refine L_iadd (q := 715) dL_law_714 rfl ?_
  rw [e_1]
  refine L_sld (q := 716) dL_law_715 (by omega) rfl ?_
  refine L_aload_n (q := 717) dL_law_716 rfl rfl rfl ?_
  refine L_iload (q := 719) dL_law_717 rfl rfl ?_
  refine L_iconst (q := 720) dL_law_719 rfl rfl ?_
  refine L_iadd (q := 721) dL_law_720 rfl ?_
  rw [e_2]
  refine L_sld (q := 722) dL_law_721 (by omega) rfl ?_
  refine L_aload_n (q := 723) dL_law_722 rfl rfl rfl ?_
  refine L_iload (q := 725) dL_law_723 rfl rfl ?_
  refine L_iconst (q := 726) dL_law_725 rfl rfl ?_
  refine L_iadd (q := 727) dL_law_726 rfl ?_
  rw [e_3]
  refine L_sld (q := 728) dL_law_727 (by omega) rfl ?_
  refine L_aload_n (q := 729) dL_law_728 rfl rfl rfl ?_
  refine L_iload (q := 731) dL_law_729 rfl rfl ?_
  refine L_iconst (q := 732) dL_law_731 rfl rfl ?_
  refine L_iadd (q := 733) dL_law_732 rfl ?_
  rw [e_4]
  refine L_sld (q := 734) dL_law_733 (by omega) rfl ?_
  refine L_call (q := 737) (vI r2) (kX11_done 7 (by decide) hg) (by decide) mvL_82 (rfl : kD 70 = (11 + 10, 54)) rfl rfl rfl rfl rfl (by omega) dL_law_734 rfl ?_
  refine L_pop (q := 738) dL_law_737 trivial rfl ?_
  refine L_goto (q := 1581) dL_law_738 (by decide) ?_
  exact hgo _ hI

set_option maxHeartbeats 4000000 in
set_option maxRecDepth 100000 in
theorem law_case_where {Inv Inv' : Mm → Prop} (hst : s_where Inv Inv') {L i : Nat} {sc : Nat → Int} {μ : Mm} {v : Int64} {k n : Nat} (hL : L ≤ 3072) (hi : i + 6 ≤ L) (hsc : ∀ j, rI (sc j)) (hI : Inv μ) (hk : k ≤ 500000 ∧ n ≤ 5000000) (hgo : ∀ μ2, Inv' μ2 → LL L sc 1581 [some (vR 99), some (vR 0), some (vR 70), some (vR 98), some (vI (i : Int)), none, none] [] μ2 v k n) : LL L sc 741 [some (vR 99), some (vR 0), some (vR 70), some (vR 98), some (vI (i : Int)), none, none] [] μ v k n := by
  have e_1 : iA (i : Int) 1 = ((i + 1 : Nat) : Int) := by rw [iA, wI_id (by omega) (by omega)]; omega
  have e_2 : iA (i : Int) 2 = ((i + 2 : Nat) : Int) := by rw [iA, wI_id (by omega) (by omega)]; omega
  have e_3 : iA (i : Int) 3 = ((i + 3 : Nat) : Int) := by rw [iA, wI_id (by omega) (by omega)]; omega
  obtain ⟨r, μ1, r2, μ2, hf, hg, hI⟩ := hst (sc (((i + 1 : Nat) : Int).toNat)) (hsc _) (sc (((i + 2 : Nat) : Int).toNat)) (hsc _) (sc (((i + 3 : Nat) : Int).toNat)) (hsc _) μ hI
  refine L_aload_n (q := 742) dL_law_741 rfl rfl rfl ?_
  refine L_aload_n (q := 743) dL_law_742 rfl rfl rfl ?_
  refine L_iload (q := 745) dL_law_743 rfl rfl ?_
  refine L_iconst (q := 746) dL_law_745 rfl rfl ?_
  refine L_iadd (q := 747) dL_law_746 rfl ?_
  rw [e_1]
  refine L_sld (q := 748) dL_law_747 (by omega) rfl ?_
  refine L_aload_n (q := 749) dL_law_748 rfl rfl rfl ?_
  refine L_iload (q := 751) dL_law_749 rfl rfl ?_
  refine L_iconst (q := 752) dL_law_751 rfl rfl ?_
  refine L_iadd (q := 753) dL_law_752 rfl ?_
  rw [e_2]
  refine L_sld (q := 754) dL_law_753 (by omega) rfl ?_
  refine L_aload_n (q := 755) dL_law_754 rfl rfl rfl ?_
  refine L_iload (q := 757) dL_law_755 rfl rfl ?_
  refine L_iconst (q := 758) dL_law_757 rfl rfl ?_
  refine L_iadd (q := 759) dL_law_758 rfl ?_
  rw [e_3]
  refine L_sld (q := 760) dL_law_759 (by omega) rfl ?_
  refine L_call (q := 763) (vI r) (kX10_where 273 (by decide) hf) (by decide) mvL_83 (rfl : kD 0 = (10 + 10, 18)) rfl rfl rfl rfl rfl (by omega) dL_law_760 rfl ?_
  refine L_pop (q := 764) dL_law_763 trivial rfl ?_
  refine L_aload_n (q := 765) dL_law_764 rfl rfl rfl ?_
  refine L_aload_n (q := 766) dL_law_765 rfl rfl rfl ?_
  refine L_iload (q := 768) dL_law_766 rfl rfl ?_
  refine L_iconst (q := 769) dL_law_768 rfl rfl ?_
  refine L_iadd (q := 770) dL_law_769 rfl ?_
  rw [e_1]
  refine L_sld (q := 771) dL_law_770 (by omega) rfl ?_
  refine L_aload_n (q := 772) dL_law_771 rfl rfl rfl ?_
  refine L_iload (q := 774) dL_law_772 rfl rfl ?_
  refine L_iconst (q := 775) dL_law_774 rfl rfl ?_
  refine L_iadd (q := 776) dL_law_775 rfl ?_
  rw [e_2]
  refine L_sld (q := 777) dL_law_776 (by omega) rfl ?_
  refine L_aload_n (q := 778) dL_law_777 rfl rfl rfl ?_
  refine L_iload (q := 780) dL_law_778 rfl rfl ?_
  refine L_iconst (q := 781) dL_law_780 rfl rfl ?_
  refine L_iadd (q := 782) dL_law_781 rfl ?_
  rw [e_3]
  refine L_sld (q := 783) dL_law_782 (by omega) rfl ?_
  refine L_call (q := 786) (vI r2) (kX11_where 7 (by decide) hg) (by decide) mvL_86 (rfl : kD 70 = (11 + 10, 54)) rfl rfl rfl rfl rfl (by omega) dL_law_783 rfl ?_
  refine L_pop (q := 787) dL_law_786 trivial rfl ?_
  refine L_goto (q := 1581) dL_law_787 (by decide) ?_
  exact hgo _ hI

set_option maxHeartbeats 4000000 in
set_option maxRecDepth 100000 in
theorem law_case_best {Inv Inv' : Mm → Prop} (hst : s_best Inv Inv') {L i : Nat} {sc : Nat → Int} {μ : Mm} {v : Int64} {k n : Nat} (hL : L ≤ 3072) (hi : i + 6 ≤ L) (hsc : ∀ j, rI (sc j)) (hI : Inv μ) (hk : k ≤ 500000 ∧ n ≤ 5000000) (hgo : ∀ μ2, Inv' μ2 → LL L sc 1581 [some (vR 99), some (vR 0), some (vR 70), some (vR 98), some (vI (i : Int)), none, none] [] μ2 v k n) : LL L sc 790 [some (vR 99), some (vR 0), some (vR 70), some (vR 98), some (vI (i : Int)), none, none] [] μ v k n := by
  have e_1 : iA (i : Int) 1 = ((i + 1 : Nat) : Int) := by rw [iA, wI_id (by omega) (by omega)]; omega
  have e_2 : iA (i : Int) 2 = ((i + 2 : Nat) : Int) := by rw [iA, wI_id (by omega) (by omega)]; omega
  have e_3 : iA (i : Int) 3 = ((i + 3 : Nat) : Int) := by rw [iA, wI_id (by omega) (by omega)]; omega
  obtain ⟨r, μ1, r2, μ2, hf, hg, hI⟩ := hst (sc (((i + 1 : Nat) : Int).toNat)) (hsc _) (sc (((i + 2 : Nat) : Int).toNat)) (hsc _) (sc (((i + 3 : Nat) : Int).toNat)) (hsc _) μ hI
  refine L_aload_n (q := 791) dL_law_790 rfl rfl rfl ?_
  refine L_aload_n (q := 792) dL_law_791 rfl rfl rfl ?_
  refine L_iload (q := 794) dL_law_792 rfl rfl ?_
  refine L_iconst (q := 795) dL_law_794 rfl rfl ?_
  refine L_iadd (q := 796) dL_law_795 rfl ?_
  rw [e_1]
  refine L_sld (q := 797) dL_law_796 (by omega) rfl ?_
  refine L_aload_n (q := 798) dL_law_797 rfl rfl rfl ?_
  refine L_iload (q := 800) dL_law_798 rfl rfl ?_
  refine L_iconst (q := 801) dL_law_800 rfl rfl ?_
  refine L_iadd (q := 802) dL_law_801 rfl ?_
  rw [e_2]
  refine L_sld (q := 803) dL_law_802 (by omega) rfl ?_
  refine L_aload_n (q := 804) dL_law_803 rfl rfl rfl ?_
  refine L_iload (q := 806) dL_law_804 rfl rfl ?_
  refine L_iconst (q := 807) dL_law_806 rfl rfl ?_
  refine L_iadd (q := 808) dL_law_807 rfl ?_
  rw [e_3]
  refine L_sld (q := 809) dL_law_808 (by omega) rfl ?_
  refine L_call (q := 812) (vI r) (kX10_best 272 (by decide) hf) (by decide) mvL_87 (rfl : kD 0 = (10 + 10, 18)) rfl rfl rfl rfl rfl (by omega) dL_law_809 rfl ?_
  refine L_pop (q := 813) dL_law_812 trivial rfl ?_
  refine L_aload_n (q := 814) dL_law_813 rfl rfl rfl ?_
  refine L_aload_n (q := 815) dL_law_814 rfl rfl rfl ?_
  refine L_iload (q := 817) dL_law_815 rfl rfl ?_
  refine L_iconst (q := 818) dL_law_817 rfl rfl ?_
  refine L_iadd (q := 819) dL_law_818 rfl ?_
  rw [e_1]
  refine L_sld (q := 820) dL_law_819 (by omega) rfl ?_
  refine L_aload_n (q := 821) dL_law_820 rfl rfl rfl ?_
  refine L_iload (q := 823) dL_law_821 rfl rfl ?_
  refine L_iconst (q := 824) dL_law_823 rfl rfl ?_
  refine L_iadd (q := 825) dL_law_824 rfl ?_
  rw [e_2]
  refine L_sld (q := 826) dL_law_825 (by omega) rfl ?_
  refine L_aload_n (q := 827) dL_law_826 rfl rfl rfl ?_
  refine L_iload (q := 829) dL_law_827 rfl rfl ?_
  refine L_iconst (q := 830) dL_law_829 rfl rfl ?_
  refine L_iadd (q := 831) dL_law_830 rfl ?_
  rw [e_3]
  refine L_sld (q := 832) dL_law_831 (by omega) rfl ?_
  refine L_call (q := 835) (vI r2) (kX11_best 134 (by decide) hg) (by decide) mvL_90 (rfl : kD 70 = (11 + 10, 54)) rfl rfl rfl rfl rfl (by omega) dL_law_832 rfl ?_
  refine L_pop (q := 836) dL_law_835 trivial rfl ?_
  refine L_goto (q := 1581) dL_law_836 (by decide) ?_
  exact hgo _ hI

set_option maxHeartbeats 4000000 in
set_option maxRecDepth 100000 in
theorem law_case_met {Inv Inv' : Mm → Prop} (hst : s_met Inv Inv') {L i : Nat} {sc : Nat → Int} {μ : Mm} {v : Int64} {k n : Nat} (hL : L ≤ 3072) (hi : i + 6 ≤ L) (hsc : ∀ j, rI (sc j)) (hI : Inv μ) (hk : k ≤ 500000 ∧ n ≤ 5000000) (hgo : ∀ μ2, Inv' μ2 → LL L sc 1581 [some (vR 99), some (vR 0), some (vR 70), some (vR 98), some (vI (i : Int)), none, none] [] μ2 v k n) : LL L sc 839 [some (vR 99), some (vR 0), some (vR 70), some (vR 98), some (vI (i : Int)), none, none] [] μ v k n := by
  have e_1 : iA (i : Int) 1 = ((i + 1 : Nat) : Int) := by rw [iA, wI_id (by omega) (by omega)]; omega
  have e_2 : iA (i : Int) 2 = ((i + 2 : Nat) : Int) := by rw [iA, wI_id (by omega) (by omega)]; omega
  obtain ⟨r, μ1, r2, μ2, hf, hg, hI⟩ := hst (sc (((i + 1 : Nat) : Int).toNat)) (hsc _) (sc (((i + 2 : Nat) : Int).toNat)) (hsc _) μ hI
  refine L_aload_n (q := 840) dL_law_839 rfl rfl rfl ?_
  refine L_aload_n (q := 841) dL_law_840 rfl rfl rfl ?_
  refine L_iload (q := 843) dL_law_841 rfl rfl ?_
  refine L_iconst (q := 844) dL_law_843 rfl rfl ?_
  refine L_iadd (q := 845) dL_law_844 rfl ?_
  rw [e_1]
  refine L_sld (q := 846) dL_law_845 (by omega) rfl ?_
  refine L_aload_n (q := 847) dL_law_846 rfl rfl rfl ?_
  refine L_iload (q := 849) dL_law_847 rfl rfl ?_
  refine L_iconst (q := 850) dL_law_849 rfl rfl ?_
  refine L_iadd (q := 851) dL_law_850 rfl ?_
  rw [e_2]
  refine L_sld (q := 852) dL_law_851 (by omega) rfl ?_
  refine L_call (q := 855) (vI r) (kX10_met 272 (by decide) hf) (by decide) mvL_91 (rfl : kD 0 = (10 + 10, 18)) rfl rfl rfl rfl rfl (by omega) dL_law_852 rfl ?_
  refine L_pop (q := 856) dL_law_855 trivial rfl ?_
  refine L_aload_n (q := 857) dL_law_856 rfl rfl rfl ?_
  refine L_aload_n (q := 858) dL_law_857 rfl rfl rfl ?_
  refine L_iload (q := 860) dL_law_858 rfl rfl ?_
  refine L_iconst (q := 861) dL_law_860 rfl rfl ?_
  refine L_iadd (q := 862) dL_law_861 rfl ?_
  rw [e_1]
  refine L_sld (q := 863) dL_law_862 (by omega) rfl ?_
  refine L_aload_n (q := 864) dL_law_863 rfl rfl rfl ?_
  refine L_iload (q := 866) dL_law_864 rfl rfl ?_
  refine L_iconst (q := 867) dL_law_866 rfl rfl ?_
  refine L_iadd (q := 868) dL_law_867 rfl ?_
  rw [e_2]
  refine L_sld (q := 869) dL_law_868 (by omega) rfl ?_
  refine L_call (q := 872) (vI r2) (kX11_met 134 (by decide) hg) (by decide) mvL_94 (rfl : kD 70 = (11 + 10, 54)) rfl rfl rfl rfl rfl (by omega) dL_law_869 rfl ?_
  refine L_pop (q := 873) dL_law_872 trivial rfl ?_
  refine L_goto (q := 1581) dL_law_873 (by decide) ?_
  exact hgo _ hI

set_option maxHeartbeats 4000000 in
set_option maxRecDepth 100000 in
theorem law_case_knot {Inv Inv' : Mm → Prop} (hst : s_knot Inv Inv') {L i : Nat} {sc : Nat → Int} {μ : Mm} {v : Int64} {k n : Nat} (hL : L ≤ 3072) (hi : i + 6 ≤ L) (hsc : ∀ j, rI (sc j)) (hI : Inv μ) (hk : k ≤ 500000 ∧ n ≤ 5000000) (hgo : ∀ μ2, Inv' μ2 → LL L sc 1581 [some (vR 99), some (vR 0), some (vR 70), some (vR 98), some (vI (i : Int)), none, none] [] μ2 v k n) : LL L sc 876 [some (vR 99), some (vR 0), some (vR 70), some (vR 98), some (vI (i : Int)), none, none] [] μ v k n := by
  have e_1 : iA (i : Int) 1 = ((i + 1 : Nat) : Int) := by rw [iA, wI_id (by omega) (by omega)]; omega
  obtain ⟨r, μ1, r2, μ2, hf, hg, hI⟩ := hst (sc (((i + 1 : Nat) : Int).toNat)) (hsc _) μ hI
  refine L_aload_n (q := 877) dL_law_876 rfl rfl rfl ?_
  refine L_aload_n (q := 878) dL_law_877 rfl rfl rfl ?_
  refine L_iload (q := 880) dL_law_878 rfl rfl ?_
  refine L_iconst (q := 881) dL_law_880 rfl rfl ?_
  refine L_iadd (q := 882) dL_law_881 rfl ?_
  rw [e_1]
  refine L_sld (q := 883) dL_law_882 (by omega) rfl ?_
  refine L_call (q := 886) (vI r) (kX10_knot 272 (by decide) hf) (by decide) mvL_95 (rfl : kD 0 = (10 + 10, 18)) rfl rfl rfl rfl rfl (by omega) dL_law_883 rfl ?_
  refine L_pop (q := 887) dL_law_886 trivial rfl ?_
  refine L_aload_n (q := 888) dL_law_887 rfl rfl rfl ?_
  refine L_aload_n (q := 889) dL_law_888 rfl rfl rfl ?_
  refine L_iload (q := 891) dL_law_889 rfl rfl ?_
  refine L_iconst (q := 892) dL_law_891 rfl rfl ?_
  refine L_iadd (q := 893) dL_law_892 rfl ?_
  rw [e_1]
  refine L_sld (q := 894) dL_law_893 (by omega) rfl ?_
  refine L_call (q := 897) (vI r2) (kX11_knot 134 (by decide) hg) (by decide) mvL_98 (rfl : kD 70 = (11 + 10, 54)) rfl rfl rfl rfl rfl (by omega) dL_law_894 rfl ?_
  refine L_pop (q := 898) dL_law_897 trivial rfl ?_
  refine L_goto (q := 1581) dL_law_898 (by decide) ?_
  exact hgo _ hI

set_option maxHeartbeats 4000000 in
set_option maxRecDepth 100000 in
theorem law_case_age {Inv Inv' : Mm → Prop} (hst : s_age Inv Inv') {L i : Nat} {sc : Nat → Int} {μ : Mm} {v : Int64} {k n : Nat} (hL : L ≤ 3072) (hi : i + 6 ≤ L) (hsc : ∀ j, rI (sc j)) (hI : Inv μ) (hk : k ≤ 500000 ∧ n ≤ 5000000) (hgo : ∀ μ2, Inv' μ2 → LL L sc 1581 [some (vR 99), some (vR 0), some (vR 70), some (vR 98), some (vI (i : Int)), none, none] [] μ2 v k n) : LL L sc 901 [some (vR 99), some (vR 0), some (vR 70), some (vR 98), some (vI (i : Int)), none, none] [] μ v k n := by
  have e_1 : iA (i : Int) 1 = ((i + 1 : Nat) : Int) := by rw [iA, wI_id (by omega) (by omega)]; omega
  obtain ⟨r, μ1, r2, μ2, hf, hg, hI⟩ := hst (sc (((i + 1 : Nat) : Int).toNat)) (hsc _) μ hI
  refine L_aload_n (q := 902) dL_law_901 rfl rfl rfl ?_
  refine L_aload_n (q := 903) dL_law_902 rfl rfl rfl ?_
  refine L_iload (q := 905) dL_law_903 rfl rfl ?_
  refine L_iconst (q := 906) dL_law_905 rfl rfl ?_
  refine L_iadd (q := 907) dL_law_906 rfl ?_
  rw [e_1]
  refine L_sld (q := 908) dL_law_907 (by omega) rfl ?_
  refine L_call (q := 911) (vI r) (kX10_age 272 (by decide) hf) (by decide) mvL_99 (rfl : kD 0 = (10 + 10, 18)) rfl rfl rfl rfl rfl (by omega) dL_law_908 rfl ?_
  refine L_pop (q := 912) dL_law_911 trivial rfl ?_
  refine L_aload_n (q := 913) dL_law_912 rfl rfl rfl ?_
  refine L_aload_n (q := 914) dL_law_913 rfl rfl rfl ?_
  refine L_iload (q := 916) dL_law_914 rfl rfl ?_
  refine L_iconst (q := 917) dL_law_916 rfl rfl ?_
  refine L_iadd (q := 918) dL_law_917 rfl ?_
  rw [e_1]
  refine L_sld (q := 919) dL_law_918 (by omega) rfl ?_
  refine L_call (q := 922) (vI r2) (kX11_age 135 (by decide) hg) (by decide) mvL_102 (rfl : kD 70 = (11 + 10, 54)) rfl rfl rfl rfl rfl (by omega) dL_law_919 rfl ?_
  refine L_pop (q := 923) dL_law_922 trivial rfl ?_
  refine L_goto (q := 1581) dL_law_923 (by decide) ?_
  exact hgo _ hI

set_option maxHeartbeats 4000000 in
set_option maxRecDepth 100000 in
theorem law_case_first {Inv Inv' : Mm → Prop} (hst : s_first Inv Inv') {L i : Nat} {sc : Nat → Int} {μ : Mm} {v : Int64} {k n : Nat} (hL : L ≤ 3072) (hi : i + 6 ≤ L) (hsc : ∀ j, rI (sc j)) (hI : Inv μ) (hk : k ≤ 500000 ∧ n ≤ 5000000) (hgo : ∀ μ2, Inv' μ2 → LL L sc 1581 [some (vR 99), some (vR 0), some (vR 70), some (vR 98), some (vI (i : Int)), none, none] [] μ2 v k n) : LL L sc 926 [some (vR 99), some (vR 0), some (vR 70), some (vR 98), some (vI (i : Int)), none, none] [] μ v k n := by
  obtain ⟨r, μ1, r2, μ2, hf, hg, hI⟩ := hst μ hI
  refine L_aload_n (q := 927) dL_law_926 rfl rfl rfl ?_
  refine L_call (q := 930) (vI r) (kX10_first 272 (by decide) hf) (by decide) mvL_103 (rfl : kD 0 = (10 + 10, 18)) rfl rfl rfl rfl rfl (by omega) dL_law_927 rfl ?_
  refine L_pop (q := 931) dL_law_930 trivial rfl ?_
  refine L_aload_n (q := 932) dL_law_931 rfl rfl rfl ?_
  refine L_call (q := 935) (vI r2) (kX11_first 135 (by decide) hg) (by decide) mvL_107 (rfl : kD 70 = (11 + 10, 54)) rfl rfl rfl rfl rfl (by omega) dL_law_932 rfl ?_
  refine L_pop (q := 936) dL_law_935 trivial rfl ?_
  refine L_goto (q := 1581) dL_law_936 (by decide) ?_
  exact hgo _ hI

set_option maxHeartbeats 4000000 in
set_option maxRecDepth 100000 in
theorem law_case_post {Inv Inv' : Mm → Prop} (hst : s_post Inv Inv') {L i : Nat} {sc : Nat → Int} {μ : Mm} {v : Int64} {k n : Nat} (hL : L ≤ 3072) (hi : i + 6 ≤ L) (hsc : ∀ j, rI (sc j)) (hI : Inv μ) (hk : k ≤ 500000 ∧ n ≤ 5000000) (hgo : ∀ μ2, Inv' μ2 → LL L sc 1581 [some (vR 99), some (vR 0), some (vR 70), some (vR 98), some (vI (i : Int)), none, none] [] μ2 v k n) : LL L sc 939 [some (vR 99), some (vR 0), some (vR 70), some (vR 98), some (vI (i : Int)), none, none] [] μ v k n := by
  have e_1 : iA (i : Int) 1 = ((i + 1 : Nat) : Int) := by rw [iA, wI_id (by omega) (by omega)]; omega
  have e_2 : iA (i : Int) 2 = ((i + 2 : Nat) : Int) := by rw [iA, wI_id (by omega) (by omega)]; omega
  obtain ⟨r, μ1, r2, μ2, hf, hg, hI⟩ := hst (sc (((i + 1 : Nat) : Int).toNat)) (hsc _) (sc (((i + 2 : Nat) : Int).toNat)) (hsc _) μ hI
  refine L_aload_n (q := 940) dL_law_939 rfl rfl rfl ?_
  refine L_aload_n (q := 941) dL_law_940 rfl rfl rfl ?_
  refine L_iload (q := 943) dL_law_941 rfl rfl ?_
  refine L_iconst (q := 944) dL_law_943 rfl rfl ?_
  refine L_iadd (q := 945) dL_law_944 rfl ?_
  rw [e_1]
  refine L_sld (q := 946) dL_law_945 (by omega) rfl ?_
  refine L_aload_n (q := 947) dL_law_946 rfl rfl rfl ?_
  refine L_iload (q := 949) dL_law_947 rfl rfl ?_
  refine L_iconst (q := 950) dL_law_949 rfl rfl ?_
  refine L_iadd (q := 951) dL_law_950 rfl ?_
  rw [e_2]
  refine L_sld (q := 952) dL_law_951 (by omega) rfl ?_
  refine L_call (q := 955) (vI r) (kX10_post 272 (by decide) hf) (by decide) mvL_108 (rfl : kD 0 = (10 + 10, 18)) rfl rfl rfl rfl rfl (by omega) dL_law_952 rfl ?_
  refine L_pop (q := 956) dL_law_955 trivial rfl ?_
  refine L_aload_n (q := 957) dL_law_956 rfl rfl rfl ?_
  refine L_aload_n (q := 958) dL_law_957 rfl rfl rfl ?_
  refine L_iload (q := 960) dL_law_958 rfl rfl ?_
  refine L_iconst (q := 961) dL_law_960 rfl rfl ?_
  refine L_iadd (q := 962) dL_law_961 rfl ?_
  rw [e_1]
  refine L_sld (q := 963) dL_law_962 (by omega) rfl ?_
  refine L_aload_n (q := 964) dL_law_963 rfl rfl rfl ?_
  refine L_iload (q := 966) dL_law_964 rfl rfl ?_
  refine L_iconst (q := 967) dL_law_966 rfl rfl ?_
  refine L_iadd (q := 968) dL_law_967 rfl ?_
  rw [e_2]
  refine L_sld (q := 969) dL_law_968 (by omega) rfl ?_
  refine L_call (q := 972) (vI r2) (kX11_post 135 (by decide) hg) (by decide) mvL_111 (rfl : kD 70 = (11 + 10, 54)) rfl rfl rfl rfl rfl (by omega) dL_law_969 rfl ?_
  refine L_pop (q := 973) dL_law_972 trivial rfl ?_
  refine L_goto (q := 1581) dL_law_973 (by decide) ?_
  exact hgo _ hI

set_option maxHeartbeats 4000000 in
set_option maxRecDepth 100000 in
theorem law_case_rope {Inv Inv' : Mm → Prop} (hst : s_rope Inv Inv') {L i : Nat} {sc : Nat → Int} {μ : Mm} {v : Int64} {k n : Nat} (hL : L ≤ 3072) (hi : i + 6 ≤ L) (hsc : ∀ j, rI (sc j)) (hI : Inv μ) (hk : k ≤ 500000 ∧ n ≤ 5000000) (hgo : ∀ μ2, Inv' μ2 → LL L sc 1581 [some (vR 99), some (vR 0), some (vR 70), some (vR 98), some (vI (i : Int)), none, none] [] μ2 v k n) : LL L sc 976 [some (vR 99), some (vR 0), some (vR 70), some (vR 98), some (vI (i : Int)), none, none] [] μ v k n := by
  have e_1 : iA (i : Int) 1 = ((i + 1 : Nat) : Int) := by rw [iA, wI_id (by omega) (by omega)]; omega
  have e_2 : iA (i : Int) 2 = ((i + 2 : Nat) : Int) := by rw [iA, wI_id (by omega) (by omega)]; omega
  obtain ⟨r, μ1, r2, μ2, hf, hg, hI⟩ := hst (sc (((i + 1 : Nat) : Int).toNat)) (hsc _) (sc (((i + 2 : Nat) : Int).toNat)) (hsc _) μ hI
  refine L_aload_n (q := 977) dL_law_976 rfl rfl rfl ?_
  refine L_aload_n (q := 978) dL_law_977 rfl rfl rfl ?_
  refine L_iload (q := 980) dL_law_978 rfl rfl ?_
  refine L_iconst (q := 981) dL_law_980 rfl rfl ?_
  refine L_iadd (q := 982) dL_law_981 rfl ?_
  rw [e_1]
  refine L_sld (q := 983) dL_law_982 (by omega) rfl ?_
  refine L_aload_n (q := 984) dL_law_983 rfl rfl rfl ?_
  refine L_iload (q := 986) dL_law_984 rfl rfl ?_
  refine L_iconst (q := 987) dL_law_986 rfl rfl ?_
  refine L_iadd (q := 988) dL_law_987 rfl ?_
  rw [e_2]
  refine L_sld (q := 989) dL_law_988 (by omega) rfl ?_
  refine L_call (q := 992) (vI r) (kX10_rope 272 (by decide) hf) (by decide) mvL_112 (rfl : kD 0 = (10 + 10, 18)) rfl rfl rfl rfl rfl (by omega) dL_law_989 rfl ?_
  refine L_pop (q := 993) dL_law_992 trivial rfl ?_
  refine L_aload_n (q := 994) dL_law_993 rfl rfl rfl ?_
  refine L_aload_n (q := 995) dL_law_994 rfl rfl rfl ?_
  refine L_iload (q := 997) dL_law_995 rfl rfl ?_
  refine L_iconst (q := 998) dL_law_997 rfl rfl ?_
  refine L_iadd (q := 999) dL_law_998 rfl ?_
  rw [e_1]
  refine L_sld (q := 1000) dL_law_999 (by omega) rfl ?_
  refine L_aload_n (q := 1001) dL_law_1000 rfl rfl rfl ?_
  refine L_iload (q := 1003) dL_law_1001 rfl rfl ?_
  refine L_iconst (q := 1004) dL_law_1003 rfl rfl ?_
  refine L_iadd (q := 1005) dL_law_1004 rfl ?_
  rw [e_2]
  refine L_sld (q := 1006) dL_law_1005 (by omega) rfl ?_
  refine L_call (q := 1009) (vI r2) (kX11_rope 135 (by decide) hg) (by decide) mvL_115 (rfl : kD 70 = (11 + 10, 54)) rfl rfl rfl rfl rfl (by omega) dL_law_1006 rfl ?_
  refine L_pop (q := 1010) dL_law_1009 trivial rfl ?_
  refine L_goto (q := 1581) dL_law_1010 (by decide) ?_
  exact hgo _ hI

set_option maxHeartbeats 4000000 in
set_option maxRecDepth 100000 in
theorem law_case_exchange {Inv Inv' : Mm → Prop} (hst : s_exchange Inv Inv') {L i : Nat} {sc : Nat → Int} {μ : Mm} {v : Int64} {k n : Nat} (hL : L ≤ 3072) (hi : i + 6 ≤ L) (hsc : ∀ j, rI (sc j)) (hI : Inv μ) (hk : k ≤ 500000 ∧ n ≤ 5000000) (hgo : ∀ μ2, Inv' μ2 → LL L sc 1581 [some (vR 99), some (vR 0), some (vR 70), some (vR 98), some (vI (i : Int)), none, none] [] μ2 v k n) : LL L sc 1013 [some (vR 99), some (vR 0), some (vR 70), some (vR 98), some (vI (i : Int)), none, none] [] μ v k n := by
  have e_1 : iA (i : Int) 1 = ((i + 1 : Nat) : Int) := by rw [iA, wI_id (by omega) (by omega)]; omega
  have e_2 : iA (i : Int) 2 = ((i + 2 : Nat) : Int) := by rw [iA, wI_id (by omega) (by omega)]; omega
  have e_3 : iA (i : Int) 3 = ((i + 3 : Nat) : Int) := by rw [iA, wI_id (by omega) (by omega)]; omega
  obtain ⟨r, μ1, r2, μ2, hf, hg, hI⟩ := hst (sc (((i + 1 : Nat) : Int).toNat)) (hsc _) (sc (((i + 2 : Nat) : Int).toNat)) (hsc _) (sc (((i + 3 : Nat) : Int).toNat)) (hsc _) μ hI
  refine L_aload_n (q := 1014) dL_law_1013 rfl rfl rfl ?_
  refine L_aload_n (q := 1015) dL_law_1014 rfl rfl rfl ?_
  refine L_iload (q := 1017) dL_law_1015 rfl rfl ?_
  refine L_iconst (q := 1018) dL_law_1017 rfl rfl ?_
  refine L_iadd (q := 1019) dL_law_1018 rfl ?_
  rw [e_1]
  refine L_sld (q := 1020) dL_law_1019 (by omega) rfl ?_
  refine L_aload_n (q := 1021) dL_law_1020 rfl rfl rfl ?_
  refine L_iload (q := 1023) dL_law_1021 rfl rfl ?_
  refine L_iconst (q := 1024) dL_law_1023 rfl rfl ?_
  refine L_iadd (q := 1025) dL_law_1024 rfl ?_
  rw [e_2]
  refine L_sld (q := 1026) dL_law_1025 (by omega) rfl ?_
  refine L_aload_n (q := 1027) dL_law_1026 rfl rfl rfl ?_
  refine L_iload (q := 1029) dL_law_1027 rfl rfl ?_
  refine L_iconst (q := 1030) dL_law_1029 rfl rfl ?_
  refine L_iadd (q := 1031) dL_law_1030 rfl ?_
  rw [e_3]
  refine L_sld (q := 1032) dL_law_1031 (by omega) rfl ?_
  refine L_call (q := 1035) (vI r) (kX10_exchange 272 (by decide) hf) (by decide) mvL_116 (rfl : kD 0 = (10 + 10, 18)) rfl rfl rfl rfl rfl (by omega) dL_law_1032 rfl ?_
  refine L_pop (q := 1036) dL_law_1035 trivial rfl ?_
  refine L_aload_n (q := 1037) dL_law_1036 rfl rfl rfl ?_
  refine L_aload_n (q := 1038) dL_law_1037 rfl rfl rfl ?_
  refine L_iload (q := 1040) dL_law_1038 rfl rfl ?_
  refine L_iconst (q := 1041) dL_law_1040 rfl rfl ?_
  refine L_iadd (q := 1042) dL_law_1041 rfl ?_
  rw [e_1]
  refine L_sld (q := 1043) dL_law_1042 (by omega) rfl ?_
  refine L_aload_n (q := 1044) dL_law_1043 rfl rfl rfl ?_
  refine L_iload (q := 1046) dL_law_1044 rfl rfl ?_
  refine L_iconst (q := 1047) dL_law_1046 rfl rfl ?_
  refine L_iadd (q := 1048) dL_law_1047 rfl ?_
  rw [e_2]
  refine L_sld (q := 1049) dL_law_1048 (by omega) rfl ?_
  refine L_aload_n (q := 1050) dL_law_1049 rfl rfl rfl ?_
  refine L_iload (q := 1052) dL_law_1050 rfl rfl ?_
  refine L_iconst (q := 1053) dL_law_1052 rfl rfl ?_
  refine L_iadd (q := 1054) dL_law_1053 rfl ?_
  rw [e_3]
  refine L_sld (q := 1055) dL_law_1054 (by omega) rfl ?_
  refine L_call (q := 1058) (vI r2) (kX11_exchange 136 (by decide) hg) (by decide) mvL_119 (rfl : kD 70 = (11 + 10, 54)) rfl rfl rfl rfl rfl (by omega) dL_law_1055 rfl ?_
  refine L_pop (q := 1059) dL_law_1058 trivial rfl ?_
  refine L_goto (q := 1581) dL_law_1059 (by decide) ?_
  exact hgo _ hI

set_option maxHeartbeats 4000000 in
set_option maxRecDepth 100000 in
theorem law_case_skip {Inv Inv' : Mm → Prop} (hst : s_skip Inv Inv') {L i : Nat} {sc : Nat → Int} {μ : Mm} {v : Int64} {k n : Nat} (hL : L ≤ 3072) (hi : i + 6 ≤ L) (hsc : ∀ j, rI (sc j)) (hI : Inv μ) (hk : k ≤ 500000 ∧ n ≤ 5000000) (hgo : ∀ μ2, Inv' μ2 → LL L sc 1581 [some (vR 99), some (vR 0), some (vR 70), some (vR 98), some (vI (i : Int)), none, none] [] μ2 v k n) : LL L sc 1062 [some (vR 99), some (vR 0), some (vR 70), some (vR 98), some (vI (i : Int)), none, none] [] μ v k n := by
  have e_1 : iA (i : Int) 1 = ((i + 1 : Nat) : Int) := by rw [iA, wI_id (by omega) (by omega)]; omega
  have e_2 : iA (i : Int) 2 = ((i + 2 : Nat) : Int) := by rw [iA, wI_id (by omega) (by omega)]; omega
  have e_3 : iA (i : Int) 3 = ((i + 3 : Nat) : Int) := by rw [iA, wI_id (by omega) (by omega)]; omega
  obtain ⟨r, μ1, r2, μ2, hf, hg, hI⟩ := hst (sc (((i + 1 : Nat) : Int).toNat)) (hsc _) (sc (((i + 2 : Nat) : Int).toNat)) (hsc _) (sc (((i + 3 : Nat) : Int).toNat)) (hsc _) μ hI
  refine L_aload_n (q := 1063) dL_law_1062 rfl rfl rfl ?_
  refine L_aload_n (q := 1064) dL_law_1063 rfl rfl rfl ?_
  refine L_iload (q := 1066) dL_law_1064 rfl rfl ?_
  refine L_iconst (q := 1067) dL_law_1066 rfl rfl ?_
  refine L_iadd (q := 1068) dL_law_1067 rfl ?_
  rw [e_1]
  refine L_sld (q := 1069) dL_law_1068 (by omega) rfl ?_
  refine L_aload_n (q := 1070) dL_law_1069 rfl rfl rfl ?_
  refine L_iload (q := 1072) dL_law_1070 rfl rfl ?_
  refine L_iconst (q := 1073) dL_law_1072 rfl rfl ?_
  refine L_iadd (q := 1074) dL_law_1073 rfl ?_
  rw [e_2]
  refine L_sld (q := 1075) dL_law_1074 (by omega) rfl ?_
  refine L_aload_n (q := 1076) dL_law_1075 rfl rfl rfl ?_
  refine L_iload (q := 1078) dL_law_1076 rfl rfl ?_
  refine L_iconst (q := 1079) dL_law_1078 rfl rfl ?_
  refine L_iadd (q := 1080) dL_law_1079 rfl ?_
  rw [e_3]
  refine L_sld (q := 1081) dL_law_1080 (by omega) rfl ?_
  refine L_call (q := 1084) (vI r) (kX10_skip 272 (by decide) hf) (by decide) mvL_120 (rfl : kD 0 = (10 + 10, 18)) rfl rfl rfl rfl rfl (by omega) dL_law_1081 rfl ?_
  refine L_pop (q := 1085) dL_law_1084 trivial rfl ?_
  refine L_aload_n (q := 1086) dL_law_1085 rfl rfl rfl ?_
  refine L_aload_n (q := 1087) dL_law_1086 rfl rfl rfl ?_
  refine L_iload (q := 1089) dL_law_1087 rfl rfl ?_
  refine L_iconst (q := 1090) dL_law_1089 rfl rfl ?_
  refine L_iadd (q := 1091) dL_law_1090 rfl ?_
  rw [e_1]
  refine L_sld (q := 1092) dL_law_1091 (by omega) rfl ?_
  refine L_aload_n (q := 1093) dL_law_1092 rfl rfl rfl ?_
  refine L_iload (q := 1095) dL_law_1093 rfl rfl ?_
  refine L_iconst (q := 1096) dL_law_1095 rfl rfl ?_
  refine L_iadd (q := 1097) dL_law_1096 rfl ?_
  rw [e_2]
  refine L_sld (q := 1098) dL_law_1097 (by omega) rfl ?_
  refine L_aload_n (q := 1099) dL_law_1098 rfl rfl rfl ?_
  refine L_iload (q := 1101) dL_law_1099 rfl rfl ?_
  refine L_iconst (q := 1102) dL_law_1101 rfl rfl ?_
  refine L_iadd (q := 1103) dL_law_1102 rfl ?_
  rw [e_3]
  refine L_sld (q := 1104) dL_law_1103 (by omega) rfl ?_
  refine L_call (q := 1107) (vI r2) (kX11_skip 7 (by decide) hg) (by decide) mvL_123 (rfl : kD 70 = (11 + 10, 54)) rfl rfl rfl rfl rfl (by omega) dL_law_1104 rfl ?_
  refine L_pop (q := 1108) dL_law_1107 trivial rfl ?_
  refine L_goto (q := 1581) dL_law_1108 (by decide) ?_
  exact hgo _ hI

set_option maxHeartbeats 4000000 in
set_option maxRecDepth 100000 in
theorem law_case_nights {Inv Inv' : Mm → Prop} (hst : s_nights Inv Inv') {L i : Nat} {sc : Nat → Int} {μ : Mm} {v : Int64} {k n : Nat} (hL : L ≤ 3072) (hi : i + 6 ≤ L) (hsc : ∀ j, rI (sc j)) (hI : Inv μ) (hk : k ≤ 500000 ∧ n ≤ 5000000) (hgo : ∀ μ2, Inv' μ2 → LL L sc 1581 [some (vR 99), some (vR 0), some (vR 70), some (vR 98), some (vI (i : Int)), none, none] [] μ2 v k n) : LL L sc 1111 [some (vR 99), some (vR 0), some (vR 70), some (vR 98), some (vI (i : Int)), none, none] [] μ v k n := by
  have e_1 : iA (i : Int) 1 = ((i + 1 : Nat) : Int) := by rw [iA, wI_id (by omega) (by omega)]; omega
  have e_2 : iA (i : Int) 2 = ((i + 2 : Nat) : Int) := by rw [iA, wI_id (by omega) (by omega)]; omega
  have e_3 : iA (i : Int) 3 = ((i + 3 : Nat) : Int) := by rw [iA, wI_id (by omega) (by omega)]; omega
  obtain ⟨r, μ1, r2, μ2, hf, hg, hI⟩ := hst (sc (((i + 1 : Nat) : Int).toNat)) (hsc _) (sc (((i + 2 : Nat) : Int).toNat)) (hsc _) (sc (((i + 3 : Nat) : Int).toNat)) (hsc _) μ hI
  refine L_aload_n (q := 1112) dL_law_1111 rfl rfl rfl ?_
  refine L_aload_n (q := 1113) dL_law_1112 rfl rfl rfl ?_
  refine L_iload (q := 1115) dL_law_1113 rfl rfl ?_
  refine L_iconst (q := 1116) dL_law_1115 rfl rfl ?_
  refine L_iadd (q := 1117) dL_law_1116 rfl ?_
  rw [e_1]
  refine L_sld (q := 1118) dL_law_1117 (by omega) rfl ?_
  refine L_aload_n (q := 1119) dL_law_1118 rfl rfl rfl ?_
  refine L_iload (q := 1121) dL_law_1119 rfl rfl ?_
  refine L_iconst (q := 1122) dL_law_1121 rfl rfl ?_
  refine L_iadd (q := 1123) dL_law_1122 rfl ?_
  rw [e_2]
  refine L_sld (q := 1124) dL_law_1123 (by omega) rfl ?_
  refine L_aload_n (q := 1125) dL_law_1124 rfl rfl rfl ?_
  refine L_iload (q := 1127) dL_law_1125 rfl rfl ?_
  refine L_iconst (q := 1128) dL_law_1127 rfl rfl ?_
  refine L_iadd (q := 1129) dL_law_1128 rfl ?_
  rw [e_3]
  refine L_sld (q := 1130) dL_law_1129 (by omega) rfl ?_
  refine L_call (q := 1133) (vI r) (kX10_nights 272 (by decide) hf) (by decide) mvL_124 (rfl : kD 0 = (10 + 10, 18)) rfl rfl rfl rfl rfl (by omega) dL_law_1130 rfl ?_
  refine L_pop (q := 1134) dL_law_1133 trivial rfl ?_
  refine L_aload_n (q := 1135) dL_law_1134 rfl rfl rfl ?_
  refine L_aload_n (q := 1136) dL_law_1135 rfl rfl rfl ?_
  refine L_iload (q := 1138) dL_law_1136 rfl rfl ?_
  refine L_iconst (q := 1139) dL_law_1138 rfl rfl ?_
  refine L_iadd (q := 1140) dL_law_1139 rfl ?_
  rw [e_1]
  refine L_sld (q := 1141) dL_law_1140 (by omega) rfl ?_
  refine L_aload_n (q := 1142) dL_law_1141 rfl rfl rfl ?_
  refine L_iload (q := 1144) dL_law_1142 rfl rfl ?_
  refine L_iconst (q := 1145) dL_law_1144 rfl rfl ?_
  refine L_iadd (q := 1146) dL_law_1145 rfl ?_
  rw [e_2]
  refine L_sld (q := 1147) dL_law_1146 (by omega) rfl ?_
  refine L_aload_n (q := 1148) dL_law_1147 rfl rfl rfl ?_
  refine L_iload (q := 1150) dL_law_1148 rfl rfl ?_
  refine L_iconst (q := 1151) dL_law_1150 rfl rfl ?_
  refine L_iadd (q := 1152) dL_law_1151 rfl ?_
  rw [e_3]
  refine L_sld (q := 1153) dL_law_1152 (by omega) rfl ?_
  refine L_call (q := 1156) (vI r2) (kX11_nights 7 (by decide) hg) (by decide) mvL_127 (rfl : kD 70 = (11 + 10, 54)) rfl rfl rfl rfl rfl (by omega) dL_law_1153 rfl ?_
  refine L_pop (q := 1157) dL_law_1156 trivial rfl ?_
  refine L_goto (q := 1581) dL_law_1157 (by decide) ?_
  exact hgo _ hI

set_option maxHeartbeats 4000000 in
set_option maxRecDepth 100000 in
theorem law_case_thud {Inv Inv' : Mm → Prop} (hst : s_thud Inv Inv') {L i : Nat} {sc : Nat → Int} {μ : Mm} {v : Int64} {k n : Nat} (hL : L ≤ 3072) (hi : i + 6 ≤ L) (hsc : ∀ j, rI (sc j)) (hI : Inv μ) (hk : k ≤ 500000 ∧ n ≤ 5000000) (hgo : ∀ μ2, Inv' μ2 → LL L sc 1581 [some (vR 99), some (vR 0), some (vR 70), some (vR 98), some (vI (i : Int)), none, none] [] μ2 v k n) : LL L sc 1160 [some (vR 99), some (vR 0), some (vR 70), some (vR 98), some (vI (i : Int)), none, none] [] μ v k n := by
  have e_1 : iA (i : Int) 1 = ((i + 1 : Nat) : Int) := by rw [iA, wI_id (by omega) (by omega)]; omega
  have e_2 : iA (i : Int) 2 = ((i + 2 : Nat) : Int) := by rw [iA, wI_id (by omega) (by omega)]; omega
  obtain ⟨r, μ1, r2, μ2, hf, hg, hI⟩ := hst (sc (((i + 1 : Nat) : Int).toNat)) (hsc _) (sc (((i + 2 : Nat) : Int).toNat)) (hsc _) μ hI
  refine L_aload_n (q := 1161) dL_law_1160 rfl rfl rfl ?_
  refine L_aload_n (q := 1162) dL_law_1161 rfl rfl rfl ?_
  refine L_iload (q := 1164) dL_law_1162 rfl rfl ?_
  refine L_iconst (q := 1165) dL_law_1164 rfl rfl ?_
  refine L_iadd (q := 1166) dL_law_1165 rfl ?_
  rw [e_1]
  refine L_sld (q := 1167) dL_law_1166 (by omega) rfl ?_
  refine L_aload_n (q := 1168) dL_law_1167 rfl rfl rfl ?_
  refine L_iload (q := 1170) dL_law_1168 rfl rfl ?_
  refine L_iconst (q := 1171) dL_law_1170 rfl rfl ?_
  refine L_iadd (q := 1172) dL_law_1171 rfl ?_
  rw [e_2]
  refine L_sld (q := 1173) dL_law_1172 (by omega) rfl ?_
  refine L_call (q := 1176) (vI r) (kX10_thud 2 (by decide) hf) (by decide) mvL_128 (rfl : kD 0 = (10 + 10, 18)) rfl rfl rfl rfl rfl (by omega) dL_law_1173 rfl ?_
  refine L_pop (q := 1177) dL_law_1176 trivial rfl ?_
  refine L_aload_n (q := 1178) dL_law_1177 rfl rfl rfl ?_
  refine L_aload_n (q := 1179) dL_law_1178 rfl rfl rfl ?_
  refine L_iload (q := 1181) dL_law_1179 rfl rfl ?_
  refine L_iconst (q := 1182) dL_law_1181 rfl rfl ?_
  refine L_iadd (q := 1183) dL_law_1182 rfl ?_
  rw [e_1]
  refine L_sld (q := 1184) dL_law_1183 (by omega) rfl ?_
  refine L_aload_n (q := 1185) dL_law_1184 rfl rfl rfl ?_
  refine L_iload (q := 1187) dL_law_1185 rfl rfl ?_
  refine L_iconst (q := 1188) dL_law_1187 rfl rfl ?_
  refine L_iadd (q := 1189) dL_law_1188 rfl ?_
  rw [e_2]
  refine L_sld (q := 1190) dL_law_1189 (by omega) rfl ?_
  refine L_call (q := 1193) (vI r2) (kX11_thud 4 (by decide) hg) (by decide) mvL_131 (rfl : kD 70 = (11 + 10, 54)) rfl rfl rfl rfl rfl (by omega) dL_law_1190 rfl ?_
  refine L_pop (q := 1194) dL_law_1193 trivial rfl ?_
  refine L_goto (q := 1581) dL_law_1194 (by decide) ?_
  exact hgo _ hI

set_option maxHeartbeats 4000000 in
set_option maxRecDepth 100000 in
theorem law_case_fit {Inv Inv' : Mm → Prop} (hst : s_fit Inv Inv') {L i : Nat} {sc : Nat → Int} {μ : Mm} {v : Int64} {k n : Nat} (hL : L ≤ 3072) (hi : i + 6 ≤ L) (hsc : ∀ j, rI (sc j)) (hI : Inv μ) (hk : k ≤ 500000 ∧ n ≤ 5000000) (hgo : ∀ μ2, Inv' μ2 → LL L sc 1581 [some (vR 99), some (vR 0), some (vR 70), some (vR 98), some (vI (i : Int)), none, none] [] μ2 v k n) : LL L sc 1197 [some (vR 99), some (vR 0), some (vR 70), some (vR 98), some (vI (i : Int)), none, none] [] μ v k n := by
  have e_1 : iA (i : Int) 1 = ((i + 1 : Nat) : Int) := by rw [iA, wI_id (by omega) (by omega)]; omega
  have e_2 : iA (i : Int) 2 = ((i + 2 : Nat) : Int) := by rw [iA, wI_id (by omega) (by omega)]; omega
  obtain ⟨r, μ1, μ2, hf, hg, hI⟩ := hst (sc (((i + 1 : Nat) : Int).toNat)) (hsc _) (sc (((i + 2 : Nat) : Int).toNat)) (hsc _) μ hI
  refine L_aload_n (q := 1198) dL_law_1197 rfl rfl rfl ?_
  refine L_aload_n (q := 1199) dL_law_1198 rfl rfl rfl ?_
  refine L_iload (q := 1201) dL_law_1199 rfl rfl ?_
  refine L_iconst (q := 1202) dL_law_1201 rfl rfl ?_
  refine L_iadd (q := 1203) dL_law_1202 rfl ?_
  rw [e_1]
  refine L_sld (q := 1204) dL_law_1203 (by omega) rfl ?_
  refine L_aload_n (q := 1205) dL_law_1204 rfl rfl rfl ?_
  refine L_iload (q := 1207) dL_law_1205 rfl rfl ?_
  refine L_iconst (q := 1208) dL_law_1207 rfl rfl ?_
  refine L_iadd (q := 1209) dL_law_1208 rfl ?_
  rw [e_2]
  refine L_sld (q := 1210) dL_law_1209 (by omega) rfl ?_
  refine L_call (q := 1213) (vI r) (kX10_fit 272 (by decide) hf) (by decide) mvL_132 (rfl : kD 0 = (10 + 10, 18)) rfl rfl rfl rfl rfl (by omega) dL_law_1210 rfl ?_
  refine L_aload_n (q := 1214) dL_law_1213 rfl rfl rfl ?_
  refine L_aload_n (q := 1215) dL_law_1214 rfl rfl rfl ?_
  refine L_iload (q := 1217) dL_law_1215 rfl rfl ?_
  refine L_iconst (q := 1218) dL_law_1217 rfl rfl ?_
  refine L_iadd (q := 1219) dL_law_1218 rfl ?_
  rw [e_1]
  refine L_sld (q := 1220) dL_law_1219 (by omega) rfl ?_
  refine L_aload_n (q := 1221) dL_law_1220 rfl rfl rfl ?_
  refine L_iload (q := 1223) dL_law_1221 rfl rfl ?_
  refine L_iconst (q := 1224) dL_law_1223 rfl rfl ?_
  refine L_iadd (q := 1225) dL_law_1224 rfl ?_
  rw [e_2]
  refine L_sld (q := 1226) dL_law_1225 (by omega) rfl ?_
  refine L_call (q := 1229) (vI r) (kX11_fit 135 (by decide) hg) (by decide) mvL_135 (rfl : kD 70 = (11 + 10, 54)) rfl rfl rfl rfl rfl (by omega) dL_law_1226 rfl ?_
  refine L_icmpeq (q := 1581) (q2 := 1232) dL_law_1229 (by decide) rfl (fun _ => ?_) (fun hne => absurd rfl hne)
  exact hgo _ hI

set_option maxHeartbeats 4000000 in
set_option maxRecDepth 100000 in
theorem law_case_boy {Inv Inv' : Mm → Prop} (hst : s_boy Inv Inv') {L i : Nat} {sc : Nat → Int} {μ : Mm} {v : Int64} {k n : Nat} (hL : L ≤ 3072) (hi : i + 6 ≤ L) (hsc : ∀ j, rI (sc j)) (hI : Inv μ) (hk : k ≤ 500000 ∧ n ≤ 5000000) (hgo : ∀ μ2, Inv' μ2 → LL L sc 1581 [some (vR 99), some (vR 0), some (vR 70), some (vR 98), some (vI (i : Int)), none, none] [] μ2 v k n) : LL L sc 1234 [some (vR 99), some (vR 0), some (vR 70), some (vR 98), some (vI (i : Int)), none, none] [] μ v k n := by
  have e_1 : iA (i : Int) 1 = ((i + 1 : Nat) : Int) := by rw [iA, wI_id (by omega) (by omega)]; omega
  have e_2 : iA (i : Int) 2 = ((i + 2 : Nat) : Int) := by rw [iA, wI_id (by omega) (by omega)]; omega
  have e_3 : iA (i : Int) 3 = ((i + 3 : Nat) : Int) := by rw [iA, wI_id (by omega) (by omega)]; omega
  have e_4 : iA (i : Int) 4 = ((i + 4 : Nat) : Int) := by rw [iA, wI_id (by omega) (by omega)]; omega
  obtain ⟨r, μ1, r2, μ2, hf, hg, hI⟩ := hst (sc (((i + 1 : Nat) : Int).toNat)) (hsc _) (sc (((i + 2 : Nat) : Int).toNat)) (hsc _) (sc (((i + 3 : Nat) : Int).toNat)) (hsc _) (sc (((i + 4 : Nat) : Int).toNat)) (hsc _) μ hI
  refine L_aload_n (q := 1235) dL_law_1234 rfl rfl rfl ?_
  refine L_aload_n (q := 1236) dL_law_1235 rfl rfl rfl ?_
  refine L_iload (q := 1238) dL_law_1236 rfl rfl ?_
  refine L_iconst (q := 1239) dL_law_1238 rfl rfl ?_
  refine L_iadd (q := 1240) dL_law_1239 rfl ?_
  rw [e_1]
  refine L_sld (q := 1241) dL_law_1240 (by omega) rfl ?_
  refine L_aload_n (q := 1242) dL_law_1241 rfl rfl rfl ?_
  refine L_iload (q := 1244) dL_law_1242 rfl rfl ?_
  refine L_iconst (q := 1245) dL_law_1244 rfl rfl ?_
  refine L_iadd (q := 1246) dL_law_1245 rfl ?_
  rw [e_2]
  refine L_sld (q := 1247) dL_law_1246 (by omega) rfl ?_
  refine L_aload_n (q := 1248) dL_law_1247 rfl rfl rfl ?_
  refine L_iload (q := 1250) dL_law_1248 rfl rfl ?_
  refine L_iconst (q := 1251) dL_law_1250 rfl rfl ?_
  refine L_iadd (q := 1252) dL_law_1251 rfl ?_
  rw [e_3]
  refine L_sld (q := 1253) dL_law_1252 (by omega) rfl ?_
  refine L_aload_n (q := 1254) dL_law_1253 rfl rfl rfl ?_
  refine L_iload (q := 1256) dL_law_1254 rfl rfl ?_
  refine L_iconst (q := 1257) dL_law_1256 rfl rfl ?_
  refine L_iadd (q := 1258) dL_law_1257 rfl ?_
  rw [e_4]
  refine L_sld (q := 1259) dL_law_1258 (by omega) rfl ?_
  refine L_call (q := 1262) (vI r) (kX10_boy 272 (by decide) hf) (by decide) mvL_136 (rfl : kD 0 = (10 + 10, 18)) rfl rfl rfl rfl rfl (by omega) dL_law_1259 rfl ?_
  refine L_pop (q := 1263) dL_law_1262 trivial rfl ?_
  refine L_aload_n (q := 1264) dL_law_1263 rfl rfl rfl ?_
  refine L_aload_n (q := 1265) dL_law_1264 rfl rfl rfl ?_
  refine L_iload (q := 1267) dL_law_1265 rfl rfl ?_
  refine L_iconst (q := 1268) dL_law_1267 rfl rfl ?_
  refine L_iadd (q := 1269) dL_law_1268 rfl ?_
  rw [e_1]
  refine L_sld (q := 1270) dL_law_1269 (by omega) rfl ?_
  refine L_aload_n (q := 1271) dL_law_1270 rfl rfl rfl ?_
  refine L_iload (q := 1273) dL_law_1271 rfl rfl ?_
  refine L_iconst (q := 1274) dL_law_1273 rfl rfl ?_
  refine L_iadd (q := 1275) dL_law_1274 rfl ?_
  rw [e_2]
  refine L_sld (q := 1276) dL_law_1275 (by omega) rfl ?_
  refine L_aload_n (q := 1277) dL_law_1276 rfl rfl rfl ?_
  refine L_iload (q := 1279) dL_law_1277 rfl rfl ?_
  refine L_iconst (q := 1280) dL_law_1279 rfl rfl ?_
  refine L_iadd (q := 1281) dL_law_1280 rfl ?_
  rw [e_3]
  refine L_sld (q := 1282) dL_law_1281 (by omega) rfl ?_
  refine L_aload_n (q := 1283) dL_law_1282 rfl rfl rfl ?_
  refine L_iload (q := 1285) dL_law_1283 rfl rfl ?_
  refine L_iconst (q := 1286) dL_law_1285 rfl rfl ?_
  refine L_iadd (q := 1287) dL_law_1286 rfl ?_
  rw [e_4]
  refine L_sld (q := 1288) dL_law_1287 (by omega) rfl ?_
  refine L_call (q := 1291) (vI r2) (kX11_boy 134 (by decide) hg) (by decide) mvL_139 (rfl : kD 70 = (11 + 10, 54)) rfl rfl rfl rfl rfl (by omega) dL_law_1288 rfl ?_
  refine L_pop (q := 1292) dL_law_1291 trivial rfl ?_
  refine L_goto (q := 1581) dL_law_1292 (by decide) ?_
  exact hgo _ hI

set_option maxHeartbeats 4000000 in
set_option maxRecDepth 100000 in
theorem law_case_out {Inv Inv' : Mm → Prop} (hst : s_out Inv Inv') {L i : Nat} {sc : Nat → Int} {μ : Mm} {v : Int64} {k n : Nat} (hL : L ≤ 3072) (hi : i + 6 ≤ L) (hsc : ∀ j, rI (sc j)) (hI : Inv μ) (hk : k ≤ 500000 ∧ n ≤ 5000000) (hgo : ∀ μ2, Inv' μ2 → LL L sc 1581 [some (vR 99), some (vR 0), some (vR 70), some (vR 98), some (vI (i : Int)), none, none] [] μ2 v k n) : LL L sc 1295 [some (vR 99), some (vR 0), some (vR 70), some (vR 98), some (vI (i : Int)), none, none] [] μ v k n := by
  have e_1 : iA (i : Int) 1 = ((i + 1 : Nat) : Int) := by rw [iA, wI_id (by omega) (by omega)]; omega
  obtain ⟨r, μ1, r2, μ2, hf, hg, hI⟩ := hst (sc (((i + 1 : Nat) : Int).toNat)) (hsc _) μ hI
  refine L_aload_n (q := 1296) dL_law_1295 rfl rfl rfl ?_
  refine L_aload_n (q := 1297) dL_law_1296 rfl rfl rfl ?_
  refine L_iload (q := 1299) dL_law_1297 rfl rfl ?_
  refine L_iconst (q := 1300) dL_law_1299 rfl rfl ?_
  refine L_iadd (q := 1301) dL_law_1300 rfl ?_
  rw [e_1]
  refine L_sld (q := 1302) dL_law_1301 (by omega) rfl ?_
  refine L_call (q := 1305) (vI r) (kX10_out 4 (by decide) hf) (by decide) mvL_140 (rfl : kD 0 = (10 + 10, 18)) rfl rfl rfl rfl rfl (by omega) dL_law_1302 rfl ?_
  refine L_pop (q := 1306) dL_law_1305 trivial rfl ?_
  refine L_aload_n (q := 1307) dL_law_1306 rfl rfl rfl ?_
  refine L_aload_n (q := 1308) dL_law_1307 rfl rfl rfl ?_
  refine L_iload (q := 1310) dL_law_1308 rfl rfl ?_
  refine L_iconst (q := 1311) dL_law_1310 rfl rfl ?_
  refine L_iadd (q := 1312) dL_law_1311 rfl ?_
  rw [e_1]
  refine L_sld (q := 1313) dL_law_1312 (by omega) rfl ?_
  refine L_call (q := 1316) (vI r2) (kX11_out 4 (by decide) hg) (by decide) mvL_143 (rfl : kD 70 = (11 + 10, 54)) rfl rfl rfl rfl rfl (by omega) dL_law_1313 rfl ?_
  refine L_pop (q := 1317) dL_law_1316 trivial rfl ?_
  refine L_goto (q := 1581) dL_law_1317 (by decide) ?_
  exact hgo _ hI

set_option maxHeartbeats 4000000 in
set_option maxRecDepth 100000 in
theorem law_case_walk {Inv Inv' : Mm → Prop} (hst : s_walk Inv Inv') {L i : Nat} {sc : Nat → Int} {μ : Mm} {v : Int64} {k n : Nat} (hL : L ≤ 3072) (hi : i + 6 ≤ L) (hsc : ∀ j, rI (sc j)) (hI : Inv μ) (hk : k ≤ 500000 ∧ n ≤ 5000000) (hgo : ∀ μ2, Inv' μ2 → LL L sc 1581 [some (vR 99), some (vR 0), some (vR 70), some (vR 98), some (vI (i : Int)), none, none] [] μ2 v k n) : LL L sc 1320 [some (vR 99), some (vR 0), some (vR 70), some (vR 98), some (vI (i : Int)), none, none] [] μ v k n := by
  have e_1 : iA (i : Int) 1 = ((i + 1 : Nat) : Int) := by rw [iA, wI_id (by omega) (by omega)]; omega
  have e_2 : iA (i : Int) 2 = ((i + 2 : Nat) : Int) := by rw [iA, wI_id (by omega) (by omega)]; omega
  have e_3 : iA (i : Int) 3 = ((i + 3 : Nat) : Int) := by rw [iA, wI_id (by omega) (by omega)]; omega
  obtain ⟨r, μ1, r2, μ2, hf, hg, hI⟩ := hst (sc (((i + 1 : Nat) : Int).toNat)) (hsc _) (sc (((i + 2 : Nat) : Int).toNat)) (hsc _) (sc (((i + 3 : Nat) : Int).toNat)) (hsc _) μ hI
  refine L_aload_n (q := 1321) dL_law_1320 rfl rfl rfl ?_
  refine L_aload_n (q := 1322) dL_law_1321 rfl rfl rfl ?_
  refine L_iload (q := 1324) dL_law_1322 rfl rfl ?_
  refine L_iconst (q := 1325) dL_law_1324 rfl rfl ?_
  refine L_iadd (q := 1326) dL_law_1325 rfl ?_
  rw [e_1]
  refine L_sld (q := 1327) dL_law_1326 (by omega) rfl ?_
  refine L_aload_n (q := 1328) dL_law_1327 rfl rfl rfl ?_
  refine L_iload (q := 1330) dL_law_1328 rfl rfl ?_
  refine L_iconst (q := 1331) dL_law_1330 rfl rfl ?_
  refine L_iadd (q := 1332) dL_law_1331 rfl ?_
  rw [e_2]
  refine L_sld (q := 1333) dL_law_1332 (by omega) rfl ?_
  refine L_aload_n (q := 1334) dL_law_1333 rfl rfl rfl ?_
  refine L_iload (q := 1336) dL_law_1334 rfl rfl ?_
  refine L_iconst (q := 1337) dL_law_1336 rfl rfl ?_
  refine L_iadd (q := 1338) dL_law_1337 rfl ?_
  rw [e_3]
  refine L_sld (q := 1339) dL_law_1338 (by omega) rfl ?_
  refine L_call (q := 1342) (vI r) (kX10_walk 273 (by decide) hf) (by decide) mvL_144 (rfl : kD 0 = (10 + 10, 18)) rfl rfl rfl rfl rfl (by omega) dL_law_1339 rfl ?_
  refine L_pop (q := 1343) dL_law_1342 trivial rfl ?_
  refine L_aload_n (q := 1344) dL_law_1343 rfl rfl rfl ?_
  refine L_aload_n (q := 1345) dL_law_1344 rfl rfl rfl ?_
  refine L_iload (q := 1347) dL_law_1345 rfl rfl ?_
  refine L_iconst (q := 1348) dL_law_1347 rfl rfl ?_
  refine L_iadd (q := 1349) dL_law_1348 rfl ?_
  rw [e_1]
  refine L_sld (q := 1350) dL_law_1349 (by omega) rfl ?_
  refine L_aload_n (q := 1351) dL_law_1350 rfl rfl rfl ?_
  refine L_iload (q := 1353) dL_law_1351 rfl rfl ?_
  refine L_iconst (q := 1354) dL_law_1353 rfl rfl ?_
  refine L_iadd (q := 1355) dL_law_1354 rfl ?_
  rw [e_2]
  refine L_sld (q := 1356) dL_law_1355 (by omega) rfl ?_
  refine L_aload_n (q := 1357) dL_law_1356 rfl rfl rfl ?_
  refine L_iload (q := 1359) dL_law_1357 rfl rfl ?_
  refine L_iconst (q := 1360) dL_law_1359 rfl rfl ?_
  refine L_iadd (q := 1361) dL_law_1360 rfl ?_
  rw [e_3]
  refine L_sld (q := 1362) dL_law_1361 (by omega) rfl ?_
  refine L_call (q := 1365) (vI r2) (kX11_walk 7 (by decide) hg) (by decide) mvL_147 (rfl : kD 70 = (11 + 10, 54)) rfl rfl rfl rfl rfl (by omega) dL_law_1362 rfl ?_
  refine L_pop (q := 1366) dL_law_1365 trivial rfl ?_
  refine L_goto (q := 1581) dL_law_1366 (by decide) ?_
  exact hgo _ hI

set_option maxHeartbeats 4000000 in
set_option maxRecDepth 100000 in
theorem law_case_mend {Inv Inv' : Mm → Prop} (hst : s_mend Inv Inv') {L i : Nat} {sc : Nat → Int} {μ : Mm} {v : Int64} {k n : Nat} (hL : L ≤ 3072) (hi : i + 6 ≤ L) (hsc : ∀ j, rI (sc j)) (hI : Inv μ) (hk : k ≤ 500000 ∧ n ≤ 5000000) (hgo : ∀ μ2, Inv' μ2 → LL L sc 1581 [some (vR 99), some (vR 0), some (vR 70), some (vR 98), some (vI (i : Int)), none, none] [] μ2 v k n) : LL L sc 1369 [some (vR 99), some (vR 0), some (vR 70), some (vR 98), some (vI (i : Int)), none, none] [] μ v k n := by
  have e_1 : iA (i : Int) 1 = ((i + 1 : Nat) : Int) := by rw [iA, wI_id (by omega) (by omega)]; omega
  have e_2 : iA (i : Int) 2 = ((i + 2 : Nat) : Int) := by rw [iA, wI_id (by omega) (by omega)]; omega
  have e_3 : iA (i : Int) 3 = ((i + 3 : Nat) : Int) := by rw [iA, wI_id (by omega) (by omega)]; omega
  obtain ⟨r, μ1, r2, μ2, hf, hg, hI⟩ := hst (sc (((i + 1 : Nat) : Int).toNat)) (hsc _) (sc (((i + 2 : Nat) : Int).toNat)) (hsc _) (sc (((i + 3 : Nat) : Int).toNat)) (hsc _) μ hI
  refine L_aload_n (q := 1370) dL_law_1369 rfl rfl rfl ?_
  refine L_aload_n (q := 1371) dL_law_1370 rfl rfl rfl ?_
  refine L_iload (q := 1373) dL_law_1371 rfl rfl ?_
  refine L_iconst (q := 1374) dL_law_1373 rfl rfl ?_
  refine L_iadd (q := 1375) dL_law_1374 rfl ?_
  rw [e_1]
  refine L_sld (q := 1376) dL_law_1375 (by omega) rfl ?_
  refine L_aload_n (q := 1377) dL_law_1376 rfl rfl rfl ?_
  refine L_iload (q := 1379) dL_law_1377 rfl rfl ?_
  refine L_iconst (q := 1380) dL_law_1379 rfl rfl ?_
  refine L_iadd (q := 1381) dL_law_1380 rfl ?_
  rw [e_2]
  refine L_sld (q := 1382) dL_law_1381 (by omega) rfl ?_
  refine L_aload_n (q := 1383) dL_law_1382 rfl rfl rfl ?_
  refine L_iload (q := 1385) dL_law_1383 rfl rfl ?_
  refine L_iconst (q := 1386) dL_law_1385 rfl rfl ?_
  refine L_iadd (q := 1387) dL_law_1386 rfl ?_
  rw [e_3]
  refine L_sld (q := 1388) dL_law_1387 (by omega) rfl ?_
  refine L_call (q := 1391) (vI r) (kX10_mend 272 (by decide) hf) (by decide) mvL_148 (rfl : kD 0 = (10 + 10, 18)) rfl rfl rfl rfl rfl (by omega) dL_law_1388 rfl ?_
  refine L_pop (q := 1392) dL_law_1391 trivial rfl ?_
  refine L_aload_n (q := 1393) dL_law_1392 rfl rfl rfl ?_
  refine L_aload_n (q := 1394) dL_law_1393 rfl rfl rfl ?_
  refine L_iload (q := 1396) dL_law_1394 rfl rfl ?_
  refine L_iconst (q := 1397) dL_law_1396 rfl rfl ?_
  refine L_iadd (q := 1398) dL_law_1397 rfl ?_
  rw [e_1]
  refine L_sld (q := 1399) dL_law_1398 (by omega) rfl ?_
  refine L_aload_n (q := 1400) dL_law_1399 rfl rfl rfl ?_
  refine L_iload (q := 1402) dL_law_1400 rfl rfl ?_
  refine L_iconst (q := 1403) dL_law_1402 rfl rfl ?_
  refine L_iadd (q := 1404) dL_law_1403 rfl ?_
  rw [e_2]
  refine L_sld (q := 1405) dL_law_1404 (by omega) rfl ?_
  refine L_aload_n (q := 1406) dL_law_1405 rfl rfl rfl ?_
  refine L_iload (q := 1408) dL_law_1406 rfl rfl ?_
  refine L_iconst (q := 1409) dL_law_1408 rfl rfl ?_
  refine L_iadd (q := 1410) dL_law_1409 rfl ?_
  rw [e_3]
  refine L_sld (q := 1411) dL_law_1410 (by omega) rfl ?_
  refine L_call (q := 1414) (vI r2) (kX11_mend 133 (by decide) hg) (by decide) mvL_151 (rfl : kD 70 = (11 + 10, 54)) rfl rfl rfl rfl rfl (by omega) dL_law_1411 rfl ?_
  refine L_pop (q := 1415) dL_law_1414 trivial rfl ?_
  refine L_goto (q := 1581) dL_law_1415 (by decide) ?_
  exact hgo _ hI

set_option maxHeartbeats 4000000 in
set_option maxRecDepth 100000 in
theorem law_case_slack {Inv Inv' : Mm → Prop} (hst : s_slack Inv Inv') {L i : Nat} {sc : Nat → Int} {μ : Mm} {v : Int64} {k n : Nat} (hL : L ≤ 3072) (hi : i + 6 ≤ L) (hsc : ∀ j, rI (sc j)) (hI : Inv μ) (hk : k ≤ 500000 ∧ n ≤ 5000000) (hgo : ∀ μ2, Inv' μ2 → LL L sc 1581 [some (vR 99), some (vR 0), some (vR 70), some (vR 98), some (vI (i : Int)), none, none] [] μ2 v k n) : LL L sc 1418 [some (vR 99), some (vR 0), some (vR 70), some (vR 98), some (vI (i : Int)), none, none] [] μ v k n := by
  have e_1 : iA (i : Int) 1 = ((i + 1 : Nat) : Int) := by rw [iA, wI_id (by omega) (by omega)]; omega
  have e_2 : iA (i : Int) 2 = ((i + 2 : Nat) : Int) := by rw [iA, wI_id (by omega) (by omega)]; omega
  obtain ⟨r, μ1, r2, μ2, hf, hg, hI⟩ := hst (sc (((i + 1 : Nat) : Int).toNat)) (hsc _) (sc (((i + 2 : Nat) : Int).toNat)) (hsc _) μ hI
  refine L_aload_n (q := 1419) dL_law_1418 rfl rfl rfl ?_
  refine L_aload_n (q := 1420) dL_law_1419 rfl rfl rfl ?_
  refine L_iload (q := 1422) dL_law_1420 rfl rfl ?_
  refine L_iconst (q := 1423) dL_law_1422 rfl rfl ?_
  refine L_iadd (q := 1424) dL_law_1423 rfl ?_
  rw [e_1]
  refine L_sld (q := 1425) dL_law_1424 (by omega) rfl ?_
  refine L_aload_n (q := 1426) dL_law_1425 rfl rfl rfl ?_
  refine L_iload (q := 1428) dL_law_1426 rfl rfl ?_
  refine L_iconst (q := 1429) dL_law_1428 rfl rfl ?_
  refine L_iadd (q := 1430) dL_law_1429 rfl ?_
  rw [e_2]
  refine L_sld (q := 1431) dL_law_1430 (by omega) rfl ?_
  refine L_call (q := 1434) (vI r) (kX10_slack 272 (by decide) hf) (by decide) mvL_152 (rfl : kD 0 = (10 + 10, 18)) rfl rfl rfl rfl rfl (by omega) dL_law_1431 rfl ?_
  refine L_pop (q := 1435) dL_law_1434 trivial rfl ?_
  refine L_aload_n (q := 1436) dL_law_1435 rfl rfl rfl ?_
  refine L_aload_n (q := 1437) dL_law_1436 rfl rfl rfl ?_
  refine L_iload (q := 1439) dL_law_1437 rfl rfl ?_
  refine L_iconst (q := 1440) dL_law_1439 rfl rfl ?_
  refine L_iadd (q := 1441) dL_law_1440 rfl ?_
  rw [e_1]
  refine L_sld (q := 1442) dL_law_1441 (by omega) rfl ?_
  refine L_aload_n (q := 1443) dL_law_1442 rfl rfl rfl ?_
  refine L_iload (q := 1445) dL_law_1443 rfl rfl ?_
  refine L_iconst (q := 1446) dL_law_1445 rfl rfl ?_
  refine L_iadd (q := 1447) dL_law_1446 rfl ?_
  rw [e_2]
  refine L_sld (q := 1448) dL_law_1447 (by omega) rfl ?_
  refine L_call (q := 1451) (vI r2) (kX11_slack 7 (by decide) hg) (by decide) mvL_155 (rfl : kD 70 = (11 + 10, 54)) rfl rfl rfl rfl rfl (by omega) dL_law_1448 rfl ?_
  refine L_pop (q := 1452) dL_law_1451 trivial rfl ?_
  refine L_goto (q := 1581) dL_law_1452 (by decide) ?_
  exact hgo _ hI

set_option maxHeartbeats 4000000 in
set_option maxRecDepth 100000 in
theorem law_case_urgent {Inv Inv' : Mm → Prop} (hst : s_urgent Inv Inv') {L i : Nat} {sc : Nat → Int} {μ : Mm} {v : Int64} {k n : Nat} (hL : L ≤ 3072) (hi : i + 6 ≤ L) (hsc : ∀ j, rI (sc j)) (hI : Inv μ) (hk : k ≤ 500000 ∧ n ≤ 5000000) (hgo : ∀ μ2, Inv' μ2 → LL L sc 1581 [some (vR 99), some (vR 0), some (vR 70), some (vR 98), some (vI (i : Int)), none, none] [] μ2 v k n) : LL L sc 1455 [some (vR 99), some (vR 0), some (vR 70), some (vR 98), some (vI (i : Int)), none, none] [] μ v k n := by
  have e_1 : iA (i : Int) 1 = ((i + 1 : Nat) : Int) := by rw [iA, wI_id (by omega) (by omega)]; omega
  obtain ⟨r, μ1, r2, μ2, hf, hg, hI⟩ := hst (sc (((i + 1 : Nat) : Int).toNat)) (hsc _) μ hI
  refine L_aload_n (q := 1456) dL_law_1455 rfl rfl rfl ?_
  refine L_aload_n (q := 1457) dL_law_1456 rfl rfl rfl ?_
  refine L_iload (q := 1459) dL_law_1457 rfl rfl ?_
  refine L_iconst (q := 1460) dL_law_1459 rfl rfl ?_
  refine L_iadd (q := 1461) dL_law_1460 rfl ?_
  rw [e_1]
  refine L_sld (q := 1462) dL_law_1461 (by omega) rfl ?_
  refine L_call (q := 1465) (vI r) (kX10_urgent 272 (by decide) hf) (by decide) mvL_156 (rfl : kD 0 = (10 + 10, 18)) rfl rfl rfl rfl rfl (by omega) dL_law_1462 rfl ?_
  refine L_pop (q := 1466) dL_law_1465 trivial rfl ?_
  refine L_aload_n (q := 1467) dL_law_1466 rfl rfl rfl ?_
  refine L_aload_n (q := 1468) dL_law_1467 rfl rfl rfl ?_
  refine L_iload (q := 1470) dL_law_1468 rfl rfl ?_
  refine L_iconst (q := 1471) dL_law_1470 rfl rfl ?_
  refine L_iadd (q := 1472) dL_law_1471 rfl ?_
  rw [e_1]
  refine L_sld (q := 1473) dL_law_1472 (by omega) rfl ?_
  refine L_call (q := 1476) (vI r2) (kX11_urgent 134 (by decide) hg) (by decide) mvL_159 (rfl : kD 70 = (11 + 10, 54)) rfl rfl rfl rfl rfl (by omega) dL_law_1473 rfl ?_
  refine L_pop (q := 1477) dL_law_1476 trivial rfl ?_
  refine L_goto (q := 1581) dL_law_1477 (by decide) ?_
  exact hgo _ hI

set_option maxHeartbeats 4000000 in
set_option maxRecDepth 100000 in
theorem law_case_dead {Inv Inv' : Mm → Prop} (hst : s_dead Inv Inv') {L i : Nat} {sc : Nat → Int} {μ : Mm} {v : Int64} {k n : Nat} (hL : L ≤ 3072) (hi : i + 6 ≤ L) (hsc : ∀ j, rI (sc j)) (hI : Inv μ) (hk : k ≤ 500000 ∧ n ≤ 5000000) (hgo : ∀ μ2, Inv' μ2 → LL L sc 1581 [some (vR 99), some (vR 0), some (vR 70), some (vR 98), some (vI (i : Int)), none, none] [] μ2 v k n) : LL L sc 1480 [some (vR 99), some (vR 0), some (vR 70), some (vR 98), some (vI (i : Int)), none, none] [] μ v k n := by
  obtain ⟨r, μ1, r2, μ2, hf, hg, hI⟩ := hst μ hI
  refine L_aload_n (q := 1481) dL_law_1480 rfl rfl rfl ?_
  refine L_call (q := 1484) (vI r) (kX10_dead 4 (by decide) hf) (by decide) mvL_160 (rfl : kD 0 = (10 + 10, 18)) rfl rfl rfl rfl rfl (by omega) dL_law_1481 rfl ?_
  refine L_pop (q := 1485) dL_law_1484 trivial rfl ?_
  refine L_aload_n (q := 1486) dL_law_1485 rfl rfl rfl ?_
  refine L_call (q := 1489) (vI r2) (kX11_dead 4 (by decide) hg) (by decide) mvL_163 (rfl : kD 70 = (11 + 10, 54)) rfl rfl rfl rfl rfl (by omega) dL_law_1486 rfl ?_
  refine L_pop (q := 1490) dL_law_1489 trivial rfl ?_
  refine L_goto (q := 1581) dL_law_1490 (by decide) ?_
  exact hgo _ hI

set_option maxHeartbeats 4000000 in
set_option maxRecDepth 100000 in
theorem law_case_pillar {Inv Inv' : Mm → Prop} (hst : s_pillar Inv Inv') {L i : Nat} {sc : Nat → Int} {μ : Mm} {v : Int64} {k n : Nat} (hL : L ≤ 3072) (hi : i + 6 ≤ L) (hsc : ∀ j, rI (sc j)) (hI : Inv μ) (hk : k ≤ 500000 ∧ n ≤ 5000000) (hgo : ∀ μ2, Inv' μ2 → LL L sc 1581 [some (vR 99), some (vR 0), some (vR 70), some (vR 98), some (vI (i : Int)), none, none] [] μ2 v k n) : LL L sc 1493 [some (vR 99), some (vR 0), some (vR 70), some (vR 98), some (vI (i : Int)), none, none] [] μ v k n := by
  have e_1 : iA (i : Int) 1 = ((i + 1 : Nat) : Int) := by rw [iA, wI_id (by omega) (by omega)]; omega
  have e_2 : iA (i : Int) 2 = ((i + 2 : Nat) : Int) := by rw [iA, wI_id (by omega) (by omega)]; omega
  obtain ⟨r, μ1, r2, μ2, hf, hg, hI⟩ := hst (sc (((i + 1 : Nat) : Int).toNat)) (hsc _) (sc (((i + 2 : Nat) : Int).toNat)) (hsc _) μ hI
  refine L_aload_n (q := 1494) dL_law_1493 rfl rfl rfl ?_
  refine L_aload_n (q := 1495) dL_law_1494 rfl rfl rfl ?_
  refine L_iload (q := 1497) dL_law_1495 rfl rfl ?_
  refine L_iconst (q := 1498) dL_law_1497 rfl rfl ?_
  refine L_iadd (q := 1499) dL_law_1498 rfl ?_
  rw [e_1]
  refine L_sld (q := 1500) dL_law_1499 (by omega) rfl ?_
  refine L_aload_n (q := 1501) dL_law_1500 rfl rfl rfl ?_
  refine L_iload (q := 1503) dL_law_1501 rfl rfl ?_
  refine L_iconst (q := 1504) dL_law_1503 rfl rfl ?_
  refine L_iadd (q := 1505) dL_law_1504 rfl ?_
  rw [e_2]
  refine L_sld (q := 1506) dL_law_1505 (by omega) rfl ?_
  refine L_call (q := 1509) (vI r) (kX10_pillar 272 (by decide) hf) (by decide) mvL_164 (rfl : kD 0 = (10 + 10, 18)) rfl rfl rfl rfl rfl (by omega) dL_law_1506 rfl ?_
  refine L_pop (q := 1510) dL_law_1509 trivial rfl ?_
  refine L_aload_n (q := 1511) dL_law_1510 rfl rfl rfl ?_
  refine L_aload_n (q := 1512) dL_law_1511 rfl rfl rfl ?_
  refine L_iload (q := 1514) dL_law_1512 rfl rfl ?_
  refine L_iconst (q := 1515) dL_law_1514 rfl rfl ?_
  refine L_iadd (q := 1516) dL_law_1515 rfl ?_
  rw [e_1]
  refine L_sld (q := 1517) dL_law_1516 (by omega) rfl ?_
  refine L_aload_n (q := 1518) dL_law_1517 rfl rfl rfl ?_
  refine L_iload (q := 1520) dL_law_1518 rfl rfl ?_
  refine L_iconst (q := 1521) dL_law_1520 rfl rfl ?_
  refine L_iadd (q := 1522) dL_law_1521 rfl ?_
  rw [e_2]
  refine L_sld (q := 1523) dL_law_1522 (by omega) rfl ?_
  refine L_call (q := 1526) (vI r2) (kX11_pillar 135 (by decide) hg) (by decide) mvL_167 (rfl : kD 70 = (11 + 10, 54)) rfl rfl rfl rfl rfl (by omega) dL_law_1523 rfl ?_
  refine L_pop (q := 1527) dL_law_1526 trivial rfl ?_
  refine L_goto (q := 1581) dL_law_1527 (by decide) ?_
  exact hgo _ hI

set_option maxHeartbeats 4000000 in
set_option maxRecDepth 100000 in
theorem law_case_image {Inv Inv' : Mm → Prop} (hst : s_image Inv Inv') {L i : Nat} {sc : Nat → Int} {μ : Mm} {v : Int64} {k n : Nat} (hL : L ≤ 3072) (hi : i + 6 ≤ L) (hsc : ∀ j, rI (sc j)) (hI : Inv μ) (hk : k ≤ 500000 ∧ n ≤ 5000000) (hgo : ∀ μ2, Inv' μ2 → LL L sc 1581 [some (vR 99), some (vR 0), some (vR 70), some (vR 98), some (vI (i : Int)), none, none] [] μ2 v k n) : LL L sc 1530 [some (vR 99), some (vR 0), some (vR 70), some (vR 98), some (vI (i : Int)), none, none] [] μ v k n := by
  obtain ⟨r, μ1, r2, μ2, hf, hg, hI⟩ := hst μ hI
  refine L_aload_n (q := 1531) dL_law_1530 rfl rfl rfl ?_
  refine L_call (q := 1534) (vI r) (kX10_image 2 (by decide) hf) (by decide) mvL_168 (rfl : kD 0 = (10 + 10, 18)) rfl rfl rfl rfl rfl (by omega) dL_law_1531 rfl ?_
  refine L_pop (q := 1535) dL_law_1534 trivial rfl ?_
  refine L_aload_n (q := 1536) dL_law_1535 rfl rfl rfl ?_
  refine L_call (q := 1539) (vI r2) (kX11_image 3 (by decide) hg) (by decide) mvL_171 (rfl : kD 70 = (11 + 10, 54)) rfl rfl rfl rfl rfl (by omega) dL_law_1536 rfl ?_
  refine L_pop (q := 1540) dL_law_1539 trivial rfl ?_
  refine L_goto (q := 1581) dL_law_1540 (by decide) ?_
  exact hgo _ hI

set_option maxHeartbeats 4000000 in
set_option maxRecDepth 100000 in
theorem law_case_back {Inv Inv' : Mm → Prop} (hst : s_back Inv Inv') {L i : Nat} {sc : Nat → Int} {μ : Mm} {v : Int64} {k n : Nat} (hL : L ≤ 3072) (hi : i + 6 ≤ L) (hsc : ∀ j, rI (sc j)) (hI : Inv μ) (hk : k ≤ 500000 ∧ n ≤ 5000000) (hgo : ∀ μ2, Inv' μ2 → LL L sc 1581 [some (vR 99), some (vR 0), some (vR 70), some (vR 98), some (vI (i : Int)), none, none] [] μ2 v k n) : LL L sc 1543 [some (vR 99), some (vR 0), some (vR 70), some (vR 98), some (vI (i : Int)), none, none] [] μ v k n := by
  obtain ⟨r, μ1, r2, μ2, hf, hg, hI⟩ := hst μ hI
  refine L_aload_n (q := 1544) dL_law_1543 rfl rfl rfl ?_
  refine L_call (q := 1547) (vI r) (kX10_back 2 (by decide) hf) (by decide) mvL_172 (rfl : kD 0 = (10 + 10, 18)) rfl rfl rfl rfl rfl (by omega) dL_law_1544 rfl ?_
  refine L_pop (q := 1548) dL_law_1547 trivial rfl ?_
  refine L_aload_n (q := 1549) dL_law_1548 rfl rfl rfl ?_
  refine L_call (q := 1552) (vI r2) (kX11_back 3 (by decide) hg) (by decide) mvL_175 (rfl : kD 70 = (11 + 10, 54)) rfl rfl rfl rfl rfl (by omega) dL_law_1549 rfl ?_
  refine L_pop (q := 1553) dL_law_1552 trivial rfl ?_
  refine L_goto (q := 1581) dL_law_1553 (by decide) ?_
  exact hgo _ hI

set_option maxHeartbeats 4000000 in
set_option maxRecDepth 100000 in
theorem law_case_count {Inv Inv' : Mm → Prop} (hst : s_count Inv Inv') {L i : Nat} {sc : Nat → Int} {μ : Mm} {v : Int64} {k n : Nat} (hL : L ≤ 3072) (hi : i + 6 ≤ L) (hsc : ∀ j, rI (sc j)) (hI : Inv μ) (hk : k ≤ 500000 ∧ n ≤ 5000000) (hgo : ∀ μ2, Inv' μ2 → LL L sc 1581 [some (vR 99), some (vR 0), some (vR 70), some (vR 98), some (vI (i : Int)), none, none] [] μ2 v k n) : LL L sc 1556 [some (vR 99), some (vR 0), some (vR 70), some (vR 98), some (vI (i : Int)), none, none] [] μ v k n := by
  have e_1 : iA (i : Int) 1 = ((i + 1 : Nat) : Int) := by rw [iA, wI_id (by omega) (by omega)]; omega
  obtain ⟨r, μ1, r2, μ2, hf, hg, hI⟩ := hst (sc (((i + 1 : Nat) : Int).toNat)) (hsc _) μ hI
  refine L_aload_n (q := 1557) dL_law_1556 rfl rfl rfl ?_
  refine L_aload_n (q := 1558) dL_law_1557 rfl rfl rfl ?_
  refine L_iload (q := 1560) dL_law_1558 rfl rfl ?_
  refine L_iconst (q := 1561) dL_law_1560 rfl rfl ?_
  refine L_iadd (q := 1562) dL_law_1561 rfl ?_
  rw [e_1]
  refine L_sld (q := 1563) dL_law_1562 (by omega) rfl ?_
  refine L_call (q := 1566) (vI r) (kX10_count 1 (by decide) hf) (by decide) mvL_176 (rfl : kD 0 = (10 + 10, 18)) rfl rfl rfl rfl rfl (by omega) dL_law_1563 rfl ?_
  refine L_pop (q := 1567) dL_law_1566 trivial rfl ?_
  refine L_aload_n (q := 1568) dL_law_1567 rfl rfl rfl ?_
  refine L_aload_n (q := 1569) dL_law_1568 rfl rfl rfl ?_
  refine L_iload (q := 1571) dL_law_1569 rfl rfl ?_
  refine L_iconst (q := 1572) dL_law_1571 rfl rfl ?_
  refine L_iadd (q := 1573) dL_law_1572 rfl ?_
  rw [e_1]
  refine L_sld (q := 1574) dL_law_1573 (by omega) rfl ?_
  refine L_call (q := 1577) (vI r2) (kX11_count 5 (by decide) hg) (by decide) mvL_179 (rfl : kD 70 = (11 + 10, 54)) rfl rfl rfl rfl rfl (by omega) dL_law_1574 rfl ?_
  refine L_pop (q := 1578) dL_law_1577 trivial rfl ?_
  refine L_goto (q := 1581) dL_law_1578 (by decide) ?_
  exact hgo _ hI

set_option maxHeartbeats 4000000 in
set_option maxRecDepth 100000 in
theorem law_case_crank (hCr : HCr) {Inv Inv' : Mm → Prop} (hst : sC Inv Inv') {L i : Nat} {sc : Nat → Int} {μ : Mm} {v : Int64} {k n : Nat} (hL : L ≤ 3072) (hi : i + 6 ≤ L) (hsc : ∀ j, rI (sc j)) (hI : Inv μ) (hk : k ≤ 500000 ∧ n ≤ 5000000) (hgo : ∀ μ2 v2, Inv' μ2 → LL L sc 1581 [some (vR 99), some (vR 0), some (vR 70), some (vR 98), some (vI (i : Int)), none, none] [] μ2 v2 (k + 1) (n + 10)) : LL L sc 356 [some (vR 99), some (vR 0), some (vR 70), some (vR 98), some (vI (i : Int)), none, none] [] μ v k n := by
  have e_1 : iA (i : Int) 1 = ((i + 1 : Nat) : Int) := by rw [iA, wI_id (by omega) (by omega)]; omega
  obtain ⟨w, μ1, b, μ2, hf, hg, hI⟩ := hst (sc (((i + 1 : Nat) : Int).toNat)) (hsc _) μ hI
  refine L_aload_n (q := 357) dL_law_356 rfl rfl rfl ?_
  refine L_aload_n (q := 358) dL_law_357 rfl rfl rfl ?_
  refine L_iload (q := 360) dL_law_358 rfl rfl ?_
  refine L_iconst (q := 361) dL_law_360 rfl rfl ?_
  refine L_iadd (q := 362) dL_law_361 rfl ?_
  rw [e_1]
  refine L_sld (q := 363) dL_law_362 (by omega) rfl ?_
  refine L_aload_n (q := 364) dL_law_363 rfl rfl rfl ?_
  have rest : ∀ (z : Int) (v2 : Int64), LL L sc 367 [some (vR 99), some (vR 0), some (vR 70), some (vR 98), some (vI (i : Int)), none, none] [vI z] μ1 v2 (k + 1) (n + 10) := by
    intro z v2
    refine L_istore (q := 369) dL_law_367 (by decide) trivial rfl ?_
    refine L_aload_n (q := 370) dL_law_369 rfl rfl rfl ?_
    refine L_aload_n (q := 371) dL_law_370 rfl rfl rfl ?_
    refine L_iload (q := 373) dL_law_371 rfl rfl ?_
    refine L_iconst (q := 374) dL_law_373 rfl rfl ?_
    refine L_iadd (q := 375) dL_law_374 rfl ?_
    rw [e_1]
    refine L_sld (q := 376) dL_law_375 (by omega) rfl ?_
    refine L_call (q := 379) (vI b) (kX11_crank 4 (by decide) hg) (by decide) mvL_42 (rfl : kD 70 = (11 + 10, 54)) rfl rfl rfl rfl rfl (by omega) dL_law_376 rfl ?_
    refine L_istore (q := 381) dL_law_379 (by decide) trivial rfl ?_
    refine L_goto (q := 1581) dL_law_381 (by decide) ?_
    exact L_weak (hgo _ _ hI) (sb_s rfl (sb_s rfl (sb_s rfl (sb_s rfl (sb_s rfl (sb_n (sb_n sb_0)))))))
  refine hCr L sc _ μ μ1 v k n _ w hf (by omega) (by omega) (fun v' hw => rest 1 v') (fun hw => rest 0 _)

set_option maxHeartbeats 4000000 in
set_option maxRecDepth 100000 in
theorem law_loop (hCr : HCr) {L : Nat} {Inv : Nat → Mm → Prop} (hst : ∀ i, i + 6 ≤ L → sAll (Inv i) (Inv (i + 6))) {sc : Nat → Int} (hL : L ≤ 3072) (hsc : ∀ j, rI (sc j)) : ∀ (N i : Nat) (μ : Mm) (v : Int64) (k n : Nat), i ≤ L + 5 → L + 6 ≤ i + N → Inv i μ → k ≤ 200 + i → n ≤ 20000 + 10 * i → LL L sc 23 [some (vR 99), some (vR 0), some (vR 70), some (vR 98), some (vI (i : Int)), none, none] [] μ v k n := by
  intro N
  induction N with
  | zero => intro i μ v k n h1 h2; exact absurd h2 (by omega)
  | succ N ih =>
    intro i μ v k n h1 h2 hI hk hn
    refine L_iload (q := 25) dL_law_23 rfl rfl ?_
    refine L_aload_n (q := 26) dL_law_25 rfl rfl rfl ?_
    refine L_slen (q := 27) dL_law_26 rfl (by omega) ?_
    refine L_bipush (q := 29) dL_law_27 rfl rfl rfl ?_
    refine L_isub (q := 30) dL_law_29 rfl ?_
    rw [show iS (L : Int) 6 = (L : Int) - 6 from wI_id (by omega) (by omega)]
    refine L_icmpgt (q := 1587) (q2 := 33) dL_law_30 (by decide) rfl (fun hgt => ?_) (fun hgt => ?_)
    · exact L_end ⟨by omega, by omega⟩ dL_law_1587 dL_law_1588
    have hi : i + 6 ≤ L := by omega
    obtain ⟨h_no, hC, h_feed, h_end, h_fault, h_text, h_at, h_way, h_cue, h_set, h_wind, h_swap, h_knock, h_order, h_done, h_where, h_best, h_met, h_knot, h_age, h_first, h_post, h_rope, h_exchange, h_skip, h_nights, h_thud, h_fit, h_boy, h_out, h_walk, h_mend, h_slack, h_urgent, h_dead, h_pillar, h_image, h_back, h_count⟩ := hst i hi
    have hgo : ∀ μ2 v2, Inv (i + 6) μ2 → LL L sc 1581 [some (vR 99), some (vR 0), some (vR 70), some (vR 98), some (vI (i : Int)), none, none] [] μ2 v2 (k + 1) (n + 10) := by
      intro μ2 v2 hI2
      refine L_iinc (q := 1584) dL_law_1581 rfl (by decide) trivial rfl ?_
      refine L_goto (q := 23) dL_law_1584 (by decide) ?_
      have e6 : iA (i : Int) 6 = ((i + 6 : Nat) : Int) := by rw [iA, wI_id (by omega) (by omega)]; omega
      rw [e6]
      exact L_weak (ih (i + 6) μ2 v2 _ _ (by omega) (by omega) hI2 (by omega) (by omega)) (sb_s rfl (sb_s rfl (sb_s rfl (sb_s rfl (sb_s rfl (sb_n (sb_n sb_0)))))))
    have hgo1 : ∀ μ2, Inv (i + 6) μ2 → LL L sc 1581 [some (vR 99), some (vR 0), some (vR 70), some (vR 98), some (vI (i : Int)), none, none] [] μ2 v k n := fun μ2 h => LL_widen (by omega) (by omega) (hgo μ2 v h)
    have hk2 : k ≤ 500000 ∧ n ≤ 5000000 := ⟨by omega, by omega⟩
    refine L_aload_n (q := 34) dL_law_33 rfl rfl rfl ?_
    refine L_iload (q := 36) dL_law_34 rfl rfl ?_
    refine L_sld (q := 37) dL_law_36 (by omega) rfl ?_
    refine L_bipush (q := 39) dL_law_37 rfl rfl rfl ?_
    refine L_iand (q := 40) dL_law_39 rfl ?_
    refine L_ts1 (q := 208) 0 dL_law_40 rfl rfl rfl (by decide) (fun hc0 => ?_) (fun hc0 => ?_)
    · exact law_case_feed h_feed hL hi hsc hI hk2 hgo1
    refine L_ts1 (q := 281) 1 dL_law_40 rfl rfl rfl (by decide) (fun hc1 => ?_) (fun hc1 => ?_)
    · exact law_case_end h_end hL hi hsc hI hk2 hgo1
    refine L_ts1 (q := 306) 2 dL_law_40 rfl rfl rfl (by decide) (fun hc2 => ?_) (fun hc2 => ?_)
    · exact law_case_fault h_fault hL hi hsc hI hk2 hgo1
    refine L_ts1 (q := 331) 3 dL_law_40 rfl rfl rfl (by decide) (fun hc3 => ?_) (fun hc3 => ?_)
    · exact law_case_text h_text hL hi hsc hI hk2 hgo1
    refine L_ts1 (q := 356) 4 dL_law_40 rfl rfl rfl (by decide) (fun hc4 => ?_) (fun hc4 => ?_)
    · exact law_case_crank hCr hC hL hi hsc hI hk2 hgo
    refine L_ts1 (q := 384) 5 dL_law_40 rfl rfl rfl (by decide) (fun hc5 => ?_) (fun hc5 => ?_)
    · exact law_case_at h_at hL hi hsc hI hk2 hgo1
    refine L_ts1 (q := 409) 6 dL_law_40 rfl rfl rfl (by decide) (fun hc6 => ?_) (fun hc6 => ?_)
    · exact law_case_way h_way hL hi hsc hI hk2 hgo1
    refine L_ts1 (q := 446) 7 dL_law_40 rfl rfl rfl (by decide) (fun hc7 => ?_) (fun hc7 => ?_)
    · exact law_case_cue h_cue hL hi hsc hI hk2 hgo1
    refine L_ts1 (q := 495) 8 dL_law_40 rfl rfl rfl (by decide) (fun hc8 => ?_) (fun hc8 => ?_)
    · exact law_case_set h_set hL hi hsc hI hk2 hgo1
    refine L_ts1 (q := 532) 9 dL_law_40 rfl rfl rfl (by decide) (fun hc9 => ?_) (fun hc9 => ?_)
    · exact law_case_wind h_wind hL hi hsc hI hk2 hgo1
    refine L_ts1 (q := 569) 10 dL_law_40 rfl rfl rfl (by decide) (fun hc10 => ?_) (fun hc10 => ?_)
    · exact law_case_swap h_swap hL hi hsc hI hk2 hgo1
    refine L_ts1 (q := 606) 11 dL_law_40 rfl rfl rfl (by decide) (fun hc11 => ?_) (fun hc11 => ?_)
    · exact law_case_knock h_knock hL hi hsc hI hk2 hgo1
    refine L_ts1 (q := 631) 12 dL_law_40 rfl rfl rfl (by decide) (fun hc12 => ?_) (fun hc12 => ?_)
    · exact law_case_order h_order hL hi hsc hI hk2 hgo1
    refine L_ts1 (q := 680) 13 dL_law_40 rfl rfl rfl (by decide) (fun hc13 => ?_) (fun hc13 => ?_)
    · exact law_case_done h_done hL hi hsc hI hk2 hgo1
    refine L_ts1 (q := 741) 14 dL_law_40 rfl rfl rfl (by decide) (fun hc14 => ?_) (fun hc14 => ?_)
    · exact law_case_where h_where hL hi hsc hI hk2 hgo1
    refine L_ts1 (q := 790) 15 dL_law_40 rfl rfl rfl (by decide) (fun hc15 => ?_) (fun hc15 => ?_)
    · exact law_case_best h_best hL hi hsc hI hk2 hgo1
    refine L_ts1 (q := 839) 16 dL_law_40 rfl rfl rfl (by decide) (fun hc16 => ?_) (fun hc16 => ?_)
    · exact law_case_met h_met hL hi hsc hI hk2 hgo1
    refine L_ts1 (q := 876) 17 dL_law_40 rfl rfl rfl (by decide) (fun hc17 => ?_) (fun hc17 => ?_)
    · exact law_case_knot h_knot hL hi hsc hI hk2 hgo1
    refine L_ts1 (q := 901) 18 dL_law_40 rfl rfl rfl (by decide) (fun hc18 => ?_) (fun hc18 => ?_)
    · exact law_case_age h_age hL hi hsc hI hk2 hgo1
    refine L_ts1 (q := 926) 19 dL_law_40 rfl rfl rfl (by decide) (fun hc19 => ?_) (fun hc19 => ?_)
    · exact law_case_first h_first hL hi hsc hI hk2 hgo1
    refine L_ts1 (q := 939) 20 dL_law_40 rfl rfl rfl (by decide) (fun hc20 => ?_) (fun hc20 => ?_)
    · exact law_case_post h_post hL hi hsc hI hk2 hgo1
    refine L_ts1 (q := 976) 21 dL_law_40 rfl rfl rfl (by decide) (fun hc21 => ?_) (fun hc21 => ?_)
    · exact law_case_rope h_rope hL hi hsc hI hk2 hgo1
    refine L_ts1 (q := 1013) 22 dL_law_40 rfl rfl rfl (by decide) (fun hc22 => ?_) (fun hc22 => ?_)
    · exact law_case_exchange h_exchange hL hi hsc hI hk2 hgo1
    refine L_ts1 (q := 1062) 23 dL_law_40 rfl rfl rfl (by decide) (fun hc23 => ?_) (fun hc23 => ?_)
    · exact law_case_skip h_skip hL hi hsc hI hk2 hgo1
    refine L_ts1 (q := 1111) 24 dL_law_40 rfl rfl rfl (by decide) (fun hc24 => ?_) (fun hc24 => ?_)
    · exact law_case_nights h_nights hL hi hsc hI hk2 hgo1
    refine L_ts1 (q := 1160) 25 dL_law_40 rfl rfl rfl (by decide) (fun hc25 => ?_) (fun hc25 => ?_)
    · exact law_case_thud h_thud hL hi hsc hI hk2 hgo1
    refine L_ts1 (q := 1197) 26 dL_law_40 rfl rfl rfl (by decide) (fun hc26 => ?_) (fun hc26 => ?_)
    · exact law_case_fit h_fit hL hi hsc hI hk2 hgo1
    refine L_ts1 (q := 1234) 27 dL_law_40 rfl rfl rfl (by decide) (fun hc27 => ?_) (fun hc27 => ?_)
    · exact law_case_boy h_boy hL hi hsc hI hk2 hgo1
    refine L_ts1 (q := 1295) 28 dL_law_40 rfl rfl rfl (by decide) (fun hc28 => ?_) (fun hc28 => ?_)
    · exact law_case_out h_out hL hi hsc hI hk2 hgo1
    refine L_ts1 (q := 1320) 29 dL_law_40 rfl rfl rfl (by decide) (fun hc29 => ?_) (fun hc29 => ?_)
    · exact law_case_walk h_walk hL hi hsc hI hk2 hgo1
    refine L_ts1 (q := 1369) 30 dL_law_40 rfl rfl rfl (by decide) (fun hc30 => ?_) (fun hc30 => ?_)
    · exact law_case_mend h_mend hL hi hsc hI hk2 hgo1
    refine L_ts1 (q := 1418) 31 dL_law_40 rfl rfl rfl (by decide) (fun hc31 => ?_) (fun hc31 => ?_)
    · exact law_case_slack h_slack hL hi hsc hI hk2 hgo1
    refine L_ts1 (q := 1455) 32 dL_law_40 rfl rfl rfl (by decide) (fun hc32 => ?_) (fun hc32 => ?_)
    · exact law_case_urgent h_urgent hL hi hsc hI hk2 hgo1
    refine L_ts1 (q := 1480) 33 dL_law_40 rfl rfl rfl (by decide) (fun hc33 => ?_) (fun hc33 => ?_)
    · exact law_case_dead h_dead hL hi hsc hI hk2 hgo1
    refine L_ts1 (q := 1493) 34 dL_law_40 rfl rfl rfl (by decide) (fun hc34 => ?_) (fun hc34 => ?_)
    · exact law_case_pillar h_pillar hL hi hsc hI hk2 hgo1
    refine L_ts1 (q := 1530) 35 dL_law_40 rfl rfl rfl (by decide) (fun hc35 => ?_) (fun hc35 => ?_)
    · exact law_case_image h_image hL hi hsc hI hk2 hgo1
    refine L_ts1 (q := 1543) 36 dL_law_40 rfl rfl rfl (by decide) (fun hc36 => ?_) (fun hc36 => ?_)
    · exact law_case_back h_back hL hi hsc hI hk2 hgo1
    refine L_ts1 (q := 1556) 37 dL_law_40 rfl rfl rfl (by decide) (fun hc37 => ?_) (fun hc37 => ?_)
    · exact law_case_count h_count hL hi hsc hI hk2 hgo1
    refine L_tsOut (q := 1581) dL_law_40 (by omega) (by decide) ?_
    exact hgo1 μ (h_no μ hI)

