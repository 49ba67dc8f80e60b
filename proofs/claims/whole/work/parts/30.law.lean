abbrev cL_law : ByteArray := code
theorem dL_law_16 : decode cL_law 16 = .ok (.iconst 0, 1) := by decide +kernel
theorem dL_law_17 : decode cL_law 17 = .ok (.istore_n 3, 1) := by decide +kernel
theorem dL_law_18 : decode cL_law 18 = .ok (.iload_n 3, 1) := by decide +kernel
theorem dL_law_19 : decode cL_law 19 = .ok (.aload_n 0, 1) := by decide +kernel
theorem dL_law_20 : decode cL_law 20 = .ok (.arraylength, 1) := by decide +kernel
theorem dL_law_21 : decode cL_law 21 = .ok (.bipush 6, 2) := by decide +kernel
theorem dL_law_23 : decode cL_law 23 = .ok (.isub, 1) := by decide +kernel
theorem dL_law_24 : decode cL_law 24 = .ok (.if_icmp .gt 1351, 3) := by decide +kernel
theorem dL_law_1375 : decode cL_law 1375 = .ok (.iconst 1, 1) := by decide +kernel
theorem dL_law_1376 : decode cL_law 1376 = .ok (.ireturn, 1) := by decide +kernel
theorem dL_law_27 : decode cL_law 27 = .ok (.aload_n 0, 1) := by decide +kernel
theorem dL_law_28 : decode cL_law 28 = .ok (.iload_n 3, 1) := by decide +kernel
theorem dL_law_29 : decode cL_law 29 = .ok (.iaload, 1) := by decide +kernel
theorem dL_law_30 : decode cL_law 30 = .ok (.bipush 63, 2) := by decide +kernel
theorem dL_law_32 : decode cL_law 32 = .ok (.iand, 1) := by decide +kernel
theorem dL_law_33 : decode cL_law 33 = .ok (.tableswitch 1336 0 36 #[163, 186, 229, 272, 315, 338, 361, 424, 447, 470, 493, 526, 559, 592, 615, 638, 671, 720, 743, 776, 809, 852, 895, 938, 971, 1004, 1027, 1070, 1103, 1126, 1159, 1192, 1225, 1238, 1261, 1274, 1313], 163) := by decide +kernel
theorem dL_law_1369 : decode cL_law 1369 = .ok (.iinc 3 6, 3) := by decide +kernel
theorem dL_law_1372 : decode cL_law 1372 = .ok (.goto (-1354), 3) := by decide +kernel
theorem dL_law_196 : decode cL_law 196 = .ok (.aload_n 1, 1) := by decide +kernel
theorem dL_law_197 : decode cL_law 197 = .ok (.aload_n 0, 1) := by decide +kernel
theorem dL_law_198 : decode cL_law 198 = .ok (.iload_n 3, 1) := by decide +kernel
theorem dL_law_199 : decode cL_law 199 = .ok (.iconst 1, 1) := by decide +kernel
theorem dL_law_200 : decode cL_law 200 = .ok (.iadd, 1) := by decide +kernel
theorem dL_law_201 : decode cL_law 201 = .ok (.iaload, 1) := by decide +kernel
theorem dL_law_202 : decode cL_law 202 = .ok (.invokevirtual 13, 3) := by decide +kernel
theorem mm_H_state : MMc yH_state cH_state 3 (some .int) 1 := ⟨hz_in 587 (by decide +kernel) (by decide +kernel), hz_in 134 (by decide +kernel) (by decide +kernel), by decide +kernel, by decide⟩
theorem mv_H_state : MMv yH_state 11 := ⟨hz_in 585 (by decide +kernel) (by decide +kernel), hz_in 586 (by decide +kernel) (by decide +kernel), _, _, rfl, by decide⟩
theorem ml_L_13 : Cond.methodLink "LastWordHillLaw" 13 yH_state ∈ hz_wt := hz_in 584 (by decide +kernel) (by decide +kernel)
theorem dL_law_205 : decode cL_law 205 = .ok (.aload_n 2, 1) := by decide +kernel
theorem dL_law_206 : decode cL_law 206 = .ok (.aload_n 0, 1) := by decide +kernel
theorem dL_law_207 : decode cL_law 207 = .ok (.iload_n 3, 1) := by decide +kernel
theorem dL_law_208 : decode cL_law 208 = .ok (.iconst 1, 1) := by decide +kernel
theorem dL_law_209 : decode cL_law 209 = .ok (.iadd, 1) := by decide +kernel
theorem dL_law_210 : decode cL_law 210 = .ok (.iaload, 1) := by decide +kernel
theorem dL_law_211 : decode cL_law 211 = .ok (.invokevirtual 17, 3) := by decide +kernel
theorem mm_M_state : MMc yM_state cM_state 3 (some .int) 1 := ⟨hz_in 1630 (by decide +kernel) (by decide +kernel), hz_in 147 (by decide +kernel) (by decide +kernel), by decide +kernel, by decide⟩
theorem mv_M_state : MMv yM_state 12 := ⟨hz_in 1628 (by decide +kernel) (by decide +kernel), hz_in 1629 (by decide +kernel) (by decide +kernel), _, _, rfl, by decide⟩
theorem ml_L_17 : Cond.methodLink "LastWordHillLaw" 17 yM_state ∈ hz_wt := hz_in 1627 (by decide +kernel) (by decide +kernel)
theorem dL_law_214 : decode cL_law 214 = .ok (.if_icmp .eq 1155, 3) := by decide +kernel
theorem dL_law_217 : decode cL_law 217 = .ok (.iconst 0, 1) := by decide +kernel
theorem dL_law_218 : decode cL_law 218 = .ok (.ireturn, 1) := by decide +kernel
theorem dL_law_219 : decode cL_law 219 = .ok (.aload_n 1, 1) := by decide +kernel
theorem dL_law_220 : decode cL_law 220 = .ok (.aload_n 0, 1) := by decide +kernel
theorem dL_law_221 : decode cL_law 221 = .ok (.iload_n 3, 1) := by decide +kernel
theorem dL_law_222 : decode cL_law 222 = .ok (.iconst 1, 1) := by decide +kernel
theorem dL_law_223 : decode cL_law 223 = .ok (.iadd, 1) := by decide +kernel
theorem dL_law_224 : decode cL_law 224 = .ok (.iaload, 1) := by decide +kernel
theorem dL_law_225 : decode cL_law 225 = .ok (.aload_n 0, 1) := by decide +kernel
theorem dL_law_226 : decode cL_law 226 = .ok (.iload_n 3, 1) := by decide +kernel
theorem dL_law_227 : decode cL_law 227 = .ok (.iconst 2, 1) := by decide +kernel
theorem dL_law_228 : decode cL_law 228 = .ok (.iadd, 1) := by decide +kernel
theorem dL_law_229 : decode cL_law 229 = .ok (.iaload, 1) := by decide +kernel
theorem dL_law_230 : decode cL_law 230 = .ok (.aload_n 0, 1) := by decide +kernel
theorem dL_law_231 : decode cL_law 231 = .ok (.iload_n 3, 1) := by decide +kernel
theorem dL_law_232 : decode cL_law 232 = .ok (.iconst 3, 1) := by decide +kernel
theorem dL_law_233 : decode cL_law 233 = .ok (.iadd, 1) := by decide +kernel
theorem dL_law_234 : decode cL_law 234 = .ok (.iaload, 1) := by decide +kernel
theorem dL_law_235 : decode cL_law 235 = .ok (.invokevirtual 18, 3) := by decide +kernel
theorem mm_H_person : MMc yH_person cH_person 6 (some .int) 3 := ⟨hz_in 595 (by decide +kernel) (by decide +kernel), hz_in 134 (by decide +kernel) (by decide +kernel), by decide +kernel, by decide⟩
theorem mv_H_person : MMv yH_person 11 := ⟨hz_in 593 (by decide +kernel) (by decide +kernel), hz_in 594 (by decide +kernel) (by decide +kernel), _, _, rfl, by decide⟩
theorem ml_L_18 : Cond.methodLink "LastWordHillLaw" 18 yH_person ∈ hz_wt := hz_in 592 (by decide +kernel) (by decide +kernel)
theorem dL_law_238 : decode cL_law 238 = .ok (.aload_n 2, 1) := by decide +kernel
theorem dL_law_239 : decode cL_law 239 = .ok (.aload_n 0, 1) := by decide +kernel
theorem dL_law_240 : decode cL_law 240 = .ok (.iload_n 3, 1) := by decide +kernel
theorem dL_law_241 : decode cL_law 241 = .ok (.iconst 1, 1) := by decide +kernel
theorem dL_law_242 : decode cL_law 242 = .ok (.iadd, 1) := by decide +kernel
theorem dL_law_243 : decode cL_law 243 = .ok (.iaload, 1) := by decide +kernel
theorem dL_law_244 : decode cL_law 244 = .ok (.aload_n 0, 1) := by decide +kernel
theorem dL_law_245 : decode cL_law 245 = .ok (.iload_n 3, 1) := by decide +kernel
theorem dL_law_246 : decode cL_law 246 = .ok (.iconst 2, 1) := by decide +kernel
theorem dL_law_247 : decode cL_law 247 = .ok (.iadd, 1) := by decide +kernel
theorem dL_law_248 : decode cL_law 248 = .ok (.iaload, 1) := by decide +kernel
theorem dL_law_249 : decode cL_law 249 = .ok (.aload_n 0, 1) := by decide +kernel
theorem dL_law_250 : decode cL_law 250 = .ok (.iload_n 3, 1) := by decide +kernel
theorem dL_law_251 : decode cL_law 251 = .ok (.iconst 3, 1) := by decide +kernel
theorem dL_law_252 : decode cL_law 252 = .ok (.iadd, 1) := by decide +kernel
theorem dL_law_253 : decode cL_law 253 = .ok (.iaload, 1) := by decide +kernel
theorem dL_law_254 : decode cL_law 254 = .ok (.invokevirtual 22, 3) := by decide +kernel
theorem mm_M_person : MMc yM_person cM_person 4 (some .int) 3 := ⟨hz_in 1634 (by decide +kernel) (by decide +kernel), hz_in 147 (by decide +kernel) (by decide +kernel), by decide +kernel, by decide⟩
theorem mv_M_person : MMv yM_person 12 := ⟨hz_in 1632 (by decide +kernel) (by decide +kernel), hz_in 1633 (by decide +kernel) (by decide +kernel), _, _, rfl, by decide⟩
theorem ml_L_22 : Cond.methodLink "LastWordHillLaw" 22 yM_person ∈ hz_wt := hz_in 1631 (by decide +kernel) (by decide +kernel)
theorem dL_law_257 : decode cL_law 257 = .ok (.if_icmp .eq 1112, 3) := by decide +kernel
theorem dL_law_260 : decode cL_law 260 = .ok (.iconst 0, 1) := by decide +kernel
theorem dL_law_261 : decode cL_law 261 = .ok (.ireturn, 1) := by decide +kernel
theorem dL_law_262 : decode cL_law 262 = .ok (.aload_n 1, 1) := by decide +kernel
theorem dL_law_263 : decode cL_law 263 = .ok (.aload_n 0, 1) := by decide +kernel
theorem dL_law_264 : decode cL_law 264 = .ok (.iload_n 3, 1) := by decide +kernel
theorem dL_law_265 : decode cL_law 265 = .ok (.iconst 1, 1) := by decide +kernel
theorem dL_law_266 : decode cL_law 266 = .ok (.iadd, 1) := by decide +kernel
theorem dL_law_267 : decode cL_law 267 = .ok (.iaload, 1) := by decide +kernel
theorem dL_law_268 : decode cL_law 268 = .ok (.aload_n 0, 1) := by decide +kernel
theorem dL_law_269 : decode cL_law 269 = .ok (.iload_n 3, 1) := by decide +kernel
theorem dL_law_270 : decode cL_law 270 = .ok (.iconst 2, 1) := by decide +kernel
theorem dL_law_271 : decode cL_law 271 = .ok (.iadd, 1) := by decide +kernel
theorem dL_law_272 : decode cL_law 272 = .ok (.iaload, 1) := by decide +kernel
theorem dL_law_273 : decode cL_law 273 = .ok (.aload_n 0, 1) := by decide +kernel
theorem dL_law_274 : decode cL_law 274 = .ok (.iload_n 3, 1) := by decide +kernel
theorem dL_law_275 : decode cL_law 275 = .ok (.iconst 3, 1) := by decide +kernel
theorem dL_law_276 : decode cL_law 276 = .ok (.iadd, 1) := by decide +kernel
theorem dL_law_277 : decode cL_law 277 = .ok (.iaload, 1) := by decide +kernel
theorem dL_law_278 : decode cL_law 278 = .ok (.invokevirtual 23, 3) := by decide +kernel
theorem mm_H_set : MMc yH_set cH_set 5 (some .boolean) 3 := ⟨hz_in 618 (by decide +kernel) (by decide +kernel), hz_in 134 (by decide +kernel) (by decide +kernel), by decide +kernel, by decide⟩
theorem mv_H_set : MMv yH_set 11 := ⟨hz_in 616 (by decide +kernel) (by decide +kernel), hz_in 617 (by decide +kernel) (by decide +kernel), _, _, rfl, by decide⟩
theorem ml_L_23 : Cond.methodLink "LastWordHillLaw" 23 yH_set ∈ hz_wt := hz_in 615 (by decide +kernel) (by decide +kernel)
theorem dL_law_281 : decode cL_law 281 = .ok (.aload_n 2, 1) := by decide +kernel
theorem dL_law_282 : decode cL_law 282 = .ok (.aload_n 0, 1) := by decide +kernel
theorem dL_law_283 : decode cL_law 283 = .ok (.iload_n 3, 1) := by decide +kernel
theorem dL_law_284 : decode cL_law 284 = .ok (.iconst 1, 1) := by decide +kernel
theorem dL_law_285 : decode cL_law 285 = .ok (.iadd, 1) := by decide +kernel
theorem dL_law_286 : decode cL_law 286 = .ok (.iaload, 1) := by decide +kernel
theorem dL_law_287 : decode cL_law 287 = .ok (.aload_n 0, 1) := by decide +kernel
theorem dL_law_288 : decode cL_law 288 = .ok (.iload_n 3, 1) := by decide +kernel
theorem dL_law_289 : decode cL_law 289 = .ok (.iconst 2, 1) := by decide +kernel
theorem dL_law_290 : decode cL_law 290 = .ok (.iadd, 1) := by decide +kernel
theorem dL_law_291 : decode cL_law 291 = .ok (.iaload, 1) := by decide +kernel
theorem dL_law_292 : decode cL_law 292 = .ok (.aload_n 0, 1) := by decide +kernel
theorem dL_law_293 : decode cL_law 293 = .ok (.iload_n 3, 1) := by decide +kernel
theorem dL_law_294 : decode cL_law 294 = .ok (.iconst 3, 1) := by decide +kernel
theorem dL_law_295 : decode cL_law 295 = .ok (.iadd, 1) := by decide +kernel
theorem dL_law_296 : decode cL_law 296 = .ok (.iaload, 1) := by decide +kernel
theorem dL_law_297 : decode cL_law 297 = .ok (.invokevirtual 27, 3) := by decide +kernel
theorem mm_M_set : MMc yM_set cM_set 4 (some .boolean) 3 := ⟨hz_in 1642 (by decide +kernel) (by decide +kernel), hz_in 147 (by decide +kernel) (by decide +kernel), by decide +kernel, by decide⟩
theorem mv_M_set : MMv yM_set 12 := ⟨hz_in 1640 (by decide +kernel) (by decide +kernel), hz_in 1641 (by decide +kernel) (by decide +kernel), _, _, rfl, by decide⟩
theorem ml_L_27 : Cond.methodLink "LastWordHillLaw" 27 yM_set ∈ hz_wt := hz_in 1639 (by decide +kernel) (by decide +kernel)
theorem dL_law_300 : decode cL_law 300 = .ok (.if_icmp .eq 1069, 3) := by decide +kernel
theorem dL_law_303 : decode cL_law 303 = .ok (.iconst 0, 1) := by decide +kernel
theorem dL_law_304 : decode cL_law 304 = .ok (.ireturn, 1) := by decide +kernel
theorem dL_law_305 : decode cL_law 305 = .ok (.aload_n 1, 1) := by decide +kernel
theorem dL_law_306 : decode cL_law 306 = .ok (.aload_n 0, 1) := by decide +kernel
theorem dL_law_307 : decode cL_law 307 = .ok (.iload_n 3, 1) := by decide +kernel
theorem dL_law_308 : decode cL_law 308 = .ok (.iconst 1, 1) := by decide +kernel
theorem dL_law_309 : decode cL_law 309 = .ok (.iadd, 1) := by decide +kernel
theorem dL_law_310 : decode cL_law 310 = .ok (.iaload, 1) := by decide +kernel
theorem dL_law_311 : decode cL_law 311 = .ok (.aload_n 0, 1) := by decide +kernel
theorem dL_law_312 : decode cL_law 312 = .ok (.iload_n 3, 1) := by decide +kernel
theorem dL_law_313 : decode cL_law 313 = .ok (.iconst 2, 1) := by decide +kernel
theorem dL_law_314 : decode cL_law 314 = .ok (.iadd, 1) := by decide +kernel
theorem dL_law_315 : decode cL_law 315 = .ok (.iaload, 1) := by decide +kernel
theorem dL_law_316 : decode cL_law 316 = .ok (.aload_n 0, 1) := by decide +kernel
theorem dL_law_317 : decode cL_law 317 = .ok (.iload_n 3, 1) := by decide +kernel
theorem dL_law_318 : decode cL_law 318 = .ok (.iconst 3, 1) := by decide +kernel
theorem dL_law_319 : decode cL_law 319 = .ok (.iadd, 1) := by decide +kernel
theorem dL_law_320 : decode cL_law 320 = .ok (.iaload, 1) := by decide +kernel
theorem dL_law_321 : decode cL_law 321 = .ok (.invokevirtual 28, 3) := by decide +kernel
theorem mm_H_act : MMc yH_act cH_act 5 (some .boolean) 3 := ⟨hz_in 629 (by decide +kernel) (by decide +kernel), hz_in 134 (by decide +kernel) (by decide +kernel), by decide +kernel, by decide⟩
theorem mv_H_act : MMv yH_act 11 := ⟨hz_in 627 (by decide +kernel) (by decide +kernel), hz_in 628 (by decide +kernel) (by decide +kernel), _, _, rfl, by decide⟩
theorem ml_L_28 : Cond.methodLink "LastWordHillLaw" 28 yH_act ∈ hz_wt := hz_in 626 (by decide +kernel) (by decide +kernel)
theorem dL_law_324 : decode cL_law 324 = .ok (.aload_n 2, 1) := by decide +kernel
theorem dL_law_325 : decode cL_law 325 = .ok (.aload_n 0, 1) := by decide +kernel
theorem dL_law_326 : decode cL_law 326 = .ok (.iload_n 3, 1) := by decide +kernel
theorem dL_law_327 : decode cL_law 327 = .ok (.iconst 1, 1) := by decide +kernel
theorem dL_law_328 : decode cL_law 328 = .ok (.iadd, 1) := by decide +kernel
theorem dL_law_329 : decode cL_law 329 = .ok (.iaload, 1) := by decide +kernel
theorem dL_law_330 : decode cL_law 330 = .ok (.aload_n 0, 1) := by decide +kernel
theorem dL_law_331 : decode cL_law 331 = .ok (.iload_n 3, 1) := by decide +kernel
theorem dL_law_332 : decode cL_law 332 = .ok (.iconst 2, 1) := by decide +kernel
theorem dL_law_333 : decode cL_law 333 = .ok (.iadd, 1) := by decide +kernel
theorem dL_law_334 : decode cL_law 334 = .ok (.iaload, 1) := by decide +kernel
theorem dL_law_335 : decode cL_law 335 = .ok (.aload_n 0, 1) := by decide +kernel
theorem dL_law_336 : decode cL_law 336 = .ok (.iload_n 3, 1) := by decide +kernel
theorem dL_law_337 : decode cL_law 337 = .ok (.iconst 3, 1) := by decide +kernel
theorem dL_law_338 : decode cL_law 338 = .ok (.iadd, 1) := by decide +kernel
theorem dL_law_339 : decode cL_law 339 = .ok (.iaload, 1) := by decide +kernel
theorem dL_law_340 : decode cL_law 340 = .ok (.invokevirtual 31, 3) := by decide +kernel
theorem mm_M_act : MMc yM_act cM_act 4 (some .boolean) 3 := ⟨hz_in 1806 (by decide +kernel) (by decide +kernel), hz_in 147 (by decide +kernel) (by decide +kernel), by decide +kernel, by decide⟩
theorem mv_M_act : MMv yM_act 12 := ⟨hz_in 1804 (by decide +kernel) (by decide +kernel), hz_in 1805 (by decide +kernel) (by decide +kernel), _, _, rfl, by decide⟩
theorem ml_L_31 : Cond.methodLink "LastWordHillLaw" 31 yM_act ∈ hz_wt := hz_in 1803 (by decide +kernel) (by decide +kernel)
theorem dL_law_343 : decode cL_law 343 = .ok (.if_icmp .eq 1026, 3) := by decide +kernel
theorem dL_law_346 : decode cL_law 346 = .ok (.iconst 0, 1) := by decide +kernel
theorem dL_law_347 : decode cL_law 347 = .ok (.ireturn, 1) := by decide +kernel
theorem dL_law_348 : decode cL_law 348 = .ok (.aload_n 1, 1) := by decide +kernel
theorem dL_law_349 : decode cL_law 349 = .ok (.aload_n 0, 1) := by decide +kernel
theorem dL_law_350 : decode cL_law 350 = .ok (.iload_n 3, 1) := by decide +kernel
theorem dL_law_351 : decode cL_law 351 = .ok (.iconst 1, 1) := by decide +kernel
theorem dL_law_352 : decode cL_law 352 = .ok (.iadd, 1) := by decide +kernel
theorem dL_law_353 : decode cL_law 353 = .ok (.iaload, 1) := by decide +kernel
theorem dL_law_354 : decode cL_law 354 = .ok (.invokevirtual 32, 3) := by decide +kernel
theorem mm_H_ask : MMc yH_ask cH_ask 3 (some .int) 1 := ⟨hz_in 684 (by decide +kernel) (by decide +kernel), hz_in 134 (by decide +kernel) (by decide +kernel), by decide +kernel, by decide⟩
theorem mv_H_ask : MMv yH_ask 11 := ⟨hz_in 682 (by decide +kernel) (by decide +kernel), hz_in 683 (by decide +kernel) (by decide +kernel), _, _, rfl, by decide⟩
theorem ml_L_32 : Cond.methodLink "LastWordHillLaw" 32 yH_ask ∈ hz_wt := hz_in 681 (by decide +kernel) (by decide +kernel)
theorem dL_law_357 : decode cL_law 357 = .ok (.aload_n 2, 1) := by decide +kernel
theorem dL_law_358 : decode cL_law 358 = .ok (.aload_n 0, 1) := by decide +kernel
theorem dL_law_359 : decode cL_law 359 = .ok (.iload_n 3, 1) := by decide +kernel
theorem dL_law_360 : decode cL_law 360 = .ok (.iconst 1, 1) := by decide +kernel
theorem dL_law_361 : decode cL_law 361 = .ok (.iadd, 1) := by decide +kernel
theorem dL_law_362 : decode cL_law 362 = .ok (.iaload, 1) := by decide +kernel
theorem dL_law_363 : decode cL_law 363 = .ok (.invokevirtual 35, 3) := by decide +kernel
theorem mm_M_ask : MMc yM_ask cM_ask 4 (some .int) 1 := ⟨hz_in 1838 (by decide +kernel) (by decide +kernel), hz_in 147 (by decide +kernel) (by decide +kernel), by decide +kernel, by decide⟩
theorem mv_M_ask : MMv yM_ask 12 := ⟨hz_in 1836 (by decide +kernel) (by decide +kernel), hz_in 1837 (by decide +kernel) (by decide +kernel), _, _, rfl, by decide⟩
theorem ml_L_35 : Cond.methodLink "LastWordHillLaw" 35 yM_ask ∈ hz_wt := hz_in 1835 (by decide +kernel) (by decide +kernel)
theorem dL_law_366 : decode cL_law 366 = .ok (.if_icmp .eq 1003, 3) := by decide +kernel
theorem dL_law_369 : decode cL_law 369 = .ok (.iconst 0, 1) := by decide +kernel
theorem dL_law_370 : decode cL_law 370 = .ok (.ireturn, 1) := by decide +kernel
theorem dL_law_371 : decode cL_law 371 = .ok (.aload_n 1, 1) := by decide +kernel
theorem dL_law_372 : decode cL_law 372 = .ok (.aload_n 0, 1) := by decide +kernel
theorem dL_law_373 : decode cL_law 373 = .ok (.iload_n 3, 1) := by decide +kernel
theorem dL_law_374 : decode cL_law 374 = .ok (.iconst 1, 1) := by decide +kernel
theorem dL_law_375 : decode cL_law 375 = .ok (.iadd, 1) := by decide +kernel
theorem dL_law_376 : decode cL_law 376 = .ok (.iaload, 1) := by decide +kernel
theorem dL_law_377 : decode cL_law 377 = .ok (.invokevirtual 36, 3) := by decide +kernel
theorem mm_H_minutes : MMc yH_minutes cH_minutes 4 (some .int) 1 := ⟨hz_in 700 (by decide +kernel) (by decide +kernel), hz_in 134 (by decide +kernel) (by decide +kernel), by decide +kernel, by decide⟩
theorem mv_H_minutes : MMv yH_minutes 11 := ⟨hz_in 698 (by decide +kernel) (by decide +kernel), hz_in 699 (by decide +kernel) (by decide +kernel), _, _, rfl, by decide⟩
theorem ml_L_36 : Cond.methodLink "LastWordHillLaw" 36 yH_minutes ∈ hz_wt := hz_in 697 (by decide +kernel) (by decide +kernel)
theorem dL_law_380 : decode cL_law 380 = .ok (.aload_n 2, 1) := by decide +kernel
theorem dL_law_381 : decode cL_law 381 = .ok (.aload_n 0, 1) := by decide +kernel
theorem dL_law_382 : decode cL_law 382 = .ok (.iload_n 3, 1) := by decide +kernel
theorem dL_law_383 : decode cL_law 383 = .ok (.iconst 1, 1) := by decide +kernel
theorem dL_law_384 : decode cL_law 384 = .ok (.iadd, 1) := by decide +kernel
theorem dL_law_385 : decode cL_law 385 = .ok (.iaload, 1) := by decide +kernel
theorem dL_law_386 : decode cL_law 386 = .ok (.invokevirtual 39, 3) := by decide +kernel
theorem mm_M_minutes : MMc yM_minutes cM_minutes 4 (some .int) 1 := ⟨hz_in 1846 (by decide +kernel) (by decide +kernel), hz_in 147 (by decide +kernel) (by decide +kernel), by decide +kernel, by decide⟩
theorem mv_M_minutes : MMv yM_minutes 12 := ⟨hz_in 1844 (by decide +kernel) (by decide +kernel), hz_in 1845 (by decide +kernel) (by decide +kernel), _, _, rfl, by decide⟩
theorem ml_L_39 : Cond.methodLink "LastWordHillLaw" 39 yM_minutes ∈ hz_wt := hz_in 1843 (by decide +kernel) (by decide +kernel)
theorem dL_law_389 : decode cL_law 389 = .ok (.if_icmp .eq 980, 3) := by decide +kernel
theorem dL_law_392 : decode cL_law 392 = .ok (.iconst 0, 1) := by decide +kernel
theorem dL_law_393 : decode cL_law 393 = .ok (.ireturn, 1) := by decide +kernel
theorem dL_law_394 : decode cL_law 394 = .ok (.aload_n 1, 1) := by decide +kernel
theorem dL_law_395 : decode cL_law 395 = .ok (.aload_n 0, 1) := by decide +kernel
theorem dL_law_396 : decode cL_law 396 = .ok (.iload_n 3, 1) := by decide +kernel
theorem dL_law_397 : decode cL_law 397 = .ok (.iconst 1, 1) := by decide +kernel
theorem dL_law_398 : decode cL_law 398 = .ok (.iadd, 1) := by decide +kernel
theorem dL_law_399 : decode cL_law 399 = .ok (.iaload, 1) := by decide +kernel
theorem dL_law_400 : decode cL_law 400 = .ok (.aload_n 0, 1) := by decide +kernel
theorem dL_law_401 : decode cL_law 401 = .ok (.iload_n 3, 1) := by decide +kernel
theorem dL_law_402 : decode cL_law 402 = .ok (.iconst 2, 1) := by decide +kernel
theorem dL_law_403 : decode cL_law 403 = .ok (.iadd, 1) := by decide +kernel
theorem dL_law_404 : decode cL_law 404 = .ok (.iaload, 1) := by decide +kernel
theorem dL_law_405 : decode cL_law 405 = .ok (.aload_n 0, 1) := by decide +kernel
theorem dL_law_406 : decode cL_law 406 = .ok (.iload_n 3, 1) := by decide +kernel
theorem dL_law_407 : decode cL_law 407 = .ok (.iconst 3, 1) := by decide +kernel
theorem dL_law_408 : decode cL_law 408 = .ok (.iadd, 1) := by decide +kernel
theorem dL_law_409 : decode cL_law 409 = .ok (.iaload, 1) := by decide +kernel
theorem dL_law_410 : decode cL_law 410 = .ok (.aload_n 0, 1) := by decide +kernel
theorem dL_law_411 : decode cL_law 411 = .ok (.iload_n 3, 1) := by decide +kernel
theorem dL_law_412 : decode cL_law 412 = .ok (.iconst 4, 1) := by decide +kernel
theorem dL_law_413 : decode cL_law 413 = .ok (.iadd, 1) := by decide +kernel
theorem dL_law_414 : decode cL_law 414 = .ok (.iaload, 1) := by decide +kernel
theorem dL_law_415 : decode cL_law 415 = .ok (.aload_n 0, 1) := by decide +kernel
theorem dL_law_416 : decode cL_law 416 = .ok (.iload_n 3, 1) := by decide +kernel
theorem dL_law_417 : decode cL_law 417 = .ok (.iconst 5, 1) := by decide +kernel
theorem dL_law_418 : decode cL_law 418 = .ok (.iadd, 1) := by decide +kernel
theorem dL_law_419 : decode cL_law 419 = .ok (.iaload, 1) := by decide +kernel
theorem dL_law_420 : decode cL_law 420 = .ok (.invokevirtual 40, 3) := by decide +kernel
theorem mm_H_feed : MMc yH_feed cH_feed 7 (some .int) 5 := ⟨hz_in 784 (by decide +kernel) (by decide +kernel), hz_in 134 (by decide +kernel) (by decide +kernel), by decide +kernel, by decide⟩
theorem mv_H_feed : MMv yH_feed 11 := ⟨hz_in 782 (by decide +kernel) (by decide +kernel), hz_in 783 (by decide +kernel) (by decide +kernel), _, _, rfl, by decide⟩
theorem ml_L_40 : Cond.methodLink "LastWordHillLaw" 40 yH_feed ∈ hz_wt := hz_in 781 (by decide +kernel) (by decide +kernel)
theorem dL_law_423 : decode cL_law 423 = .ok (.aload_n 2, 1) := by decide +kernel
theorem dL_law_424 : decode cL_law 424 = .ok (.aload_n 0, 1) := by decide +kernel
theorem dL_law_425 : decode cL_law 425 = .ok (.iload_n 3, 1) := by decide +kernel
theorem dL_law_426 : decode cL_law 426 = .ok (.iconst 1, 1) := by decide +kernel
theorem dL_law_427 : decode cL_law 427 = .ok (.iadd, 1) := by decide +kernel
theorem dL_law_428 : decode cL_law 428 = .ok (.iaload, 1) := by decide +kernel
theorem dL_law_429 : decode cL_law 429 = .ok (.aload_n 0, 1) := by decide +kernel
theorem dL_law_430 : decode cL_law 430 = .ok (.iload_n 3, 1) := by decide +kernel
theorem dL_law_431 : decode cL_law 431 = .ok (.iconst 2, 1) := by decide +kernel
theorem dL_law_432 : decode cL_law 432 = .ok (.iadd, 1) := by decide +kernel
theorem dL_law_433 : decode cL_law 433 = .ok (.iaload, 1) := by decide +kernel
theorem dL_law_434 : decode cL_law 434 = .ok (.aload_n 0, 1) := by decide +kernel
theorem dL_law_435 : decode cL_law 435 = .ok (.iload_n 3, 1) := by decide +kernel
theorem dL_law_436 : decode cL_law 436 = .ok (.iconst 3, 1) := by decide +kernel
theorem dL_law_437 : decode cL_law 437 = .ok (.iadd, 1) := by decide +kernel
theorem dL_law_438 : decode cL_law 438 = .ok (.iaload, 1) := by decide +kernel
theorem dL_law_439 : decode cL_law 439 = .ok (.aload_n 0, 1) := by decide +kernel
theorem dL_law_440 : decode cL_law 440 = .ok (.iload_n 3, 1) := by decide +kernel
theorem dL_law_441 : decode cL_law 441 = .ok (.iconst 4, 1) := by decide +kernel
theorem dL_law_442 : decode cL_law 442 = .ok (.iadd, 1) := by decide +kernel
theorem dL_law_443 : decode cL_law 443 = .ok (.iaload, 1) := by decide +kernel
theorem dL_law_444 : decode cL_law 444 = .ok (.aload_n 0, 1) := by decide +kernel
theorem dL_law_445 : decode cL_law 445 = .ok (.iload_n 3, 1) := by decide +kernel
theorem dL_law_446 : decode cL_law 446 = .ok (.iconst 5, 1) := by decide +kernel
theorem dL_law_447 : decode cL_law 447 = .ok (.iadd, 1) := by decide +kernel
theorem dL_law_448 : decode cL_law 448 = .ok (.iaload, 1) := by decide +kernel
theorem dL_law_449 : decode cL_law 449 = .ok (.invokevirtual 44, 3) := by decide +kernel
theorem mm_M_feed : MMc yM_feed cM_feed 6 (some .int) 5 := ⟨hz_in 1662 (by decide +kernel) (by decide +kernel), hz_in 147 (by decide +kernel) (by decide +kernel), by decide +kernel, by decide⟩
theorem mv_M_feed : MMv yM_feed 12 := ⟨hz_in 1660 (by decide +kernel) (by decide +kernel), hz_in 1661 (by decide +kernel) (by decide +kernel), _, _, rfl, by decide⟩
theorem ml_L_44 : Cond.methodLink "LastWordHillLaw" 44 yM_feed ∈ hz_wt := hz_in 1659 (by decide +kernel) (by decide +kernel)
theorem dL_law_452 : decode cL_law 452 = .ok (.if_icmp .eq 917, 3) := by decide +kernel
theorem dL_law_455 : decode cL_law 455 = .ok (.iconst 0, 1) := by decide +kernel
theorem dL_law_456 : decode cL_law 456 = .ok (.ireturn, 1) := by decide +kernel
theorem dL_law_457 : decode cL_law 457 = .ok (.aload_n 1, 1) := by decide +kernel
theorem dL_law_458 : decode cL_law 458 = .ok (.aload_n 0, 1) := by decide +kernel
theorem dL_law_459 : decode cL_law 459 = .ok (.iload_n 3, 1) := by decide +kernel
theorem dL_law_460 : decode cL_law 460 = .ok (.iconst 1, 1) := by decide +kernel
theorem dL_law_461 : decode cL_law 461 = .ok (.iadd, 1) := by decide +kernel
theorem dL_law_462 : decode cL_law 462 = .ok (.iaload, 1) := by decide +kernel
theorem dL_law_463 : decode cL_law 463 = .ok (.invokevirtual 45, 3) := by decide +kernel
theorem mm_H_end : MMc yH_end cH_end 2 (some .boolean) 1 := ⟨hz_in 796 (by decide +kernel) (by decide +kernel), hz_in 134 (by decide +kernel) (by decide +kernel), by decide +kernel, by decide⟩
theorem mv_H_end : MMv yH_end 11 := ⟨hz_in 794 (by decide +kernel) (by decide +kernel), hz_in 795 (by decide +kernel) (by decide +kernel), _, _, rfl, by decide⟩
theorem ml_L_45 : Cond.methodLink "LastWordHillLaw" 45 yH_end ∈ hz_wt := hz_in 793 (by decide +kernel) (by decide +kernel)
theorem dL_law_466 : decode cL_law 466 = .ok (.aload_n 2, 1) := by decide +kernel
theorem dL_law_467 : decode cL_law 467 = .ok (.aload_n 0, 1) := by decide +kernel
theorem dL_law_468 : decode cL_law 468 = .ok (.iload_n 3, 1) := by decide +kernel
theorem dL_law_469 : decode cL_law 469 = .ok (.iconst 1, 1) := by decide +kernel
theorem dL_law_470 : decode cL_law 470 = .ok (.iadd, 1) := by decide +kernel
theorem dL_law_471 : decode cL_law 471 = .ok (.iaload, 1) := by decide +kernel
theorem dL_law_472 : decode cL_law 472 = .ok (.invokevirtual 49, 3) := by decide +kernel
theorem mm_M_end : MMc yM_end cM_end 2 (some .boolean) 1 := ⟨hz_in 1670 (by decide +kernel) (by decide +kernel), hz_in 147 (by decide +kernel) (by decide +kernel), by decide +kernel, by decide⟩
theorem mv_M_end : MMv yM_end 12 := ⟨hz_in 1668 (by decide +kernel) (by decide +kernel), hz_in 1669 (by decide +kernel) (by decide +kernel), _, _, rfl, by decide⟩
theorem ml_L_49 : Cond.methodLink "LastWordHillLaw" 49 yM_end ∈ hz_wt := hz_in 1667 (by decide +kernel) (by decide +kernel)
theorem dL_law_475 : decode cL_law 475 = .ok (.if_icmp .eq 894, 3) := by decide +kernel
theorem dL_law_478 : decode cL_law 478 = .ok (.iconst 0, 1) := by decide +kernel
theorem dL_law_479 : decode cL_law 479 = .ok (.ireturn, 1) := by decide +kernel
theorem dL_law_480 : decode cL_law 480 = .ok (.aload_n 1, 1) := by decide +kernel
theorem dL_law_481 : decode cL_law 481 = .ok (.aload_n 0, 1) := by decide +kernel
theorem dL_law_482 : decode cL_law 482 = .ok (.iload_n 3, 1) := by decide +kernel
theorem dL_law_483 : decode cL_law 483 = .ok (.iconst 1, 1) := by decide +kernel
theorem dL_law_484 : decode cL_law 484 = .ok (.iadd, 1) := by decide +kernel
theorem dL_law_485 : decode cL_law 485 = .ok (.iaload, 1) := by decide +kernel
theorem dL_law_486 : decode cL_law 486 = .ok (.invokevirtual 50, 3) := by decide +kernel
theorem mm_H_text : MMc yH_text cH_text 3 (some .int) 1 := ⟨hz_in 800 (by decide +kernel) (by decide +kernel), hz_in 134 (by decide +kernel) (by decide +kernel), by decide +kernel, by decide⟩
theorem mv_H_text : MMv yH_text 11 := ⟨hz_in 798 (by decide +kernel) (by decide +kernel), hz_in 799 (by decide +kernel) (by decide +kernel), _, _, rfl, by decide⟩
theorem ml_L_50 : Cond.methodLink "LastWordHillLaw" 50 yH_text ∈ hz_wt := hz_in 797 (by decide +kernel) (by decide +kernel)
theorem dL_law_489 : decode cL_law 489 = .ok (.aload_n 2, 1) := by decide +kernel
theorem dL_law_490 : decode cL_law 490 = .ok (.aload_n 0, 1) := by decide +kernel
theorem dL_law_491 : decode cL_law 491 = .ok (.iload_n 3, 1) := by decide +kernel
theorem dL_law_492 : decode cL_law 492 = .ok (.iconst 1, 1) := by decide +kernel
theorem dL_law_493 : decode cL_law 493 = .ok (.iadd, 1) := by decide +kernel
theorem dL_law_494 : decode cL_law 494 = .ok (.iaload, 1) := by decide +kernel
theorem dL_law_495 : decode cL_law 495 = .ok (.invokevirtual 53, 3) := by decide +kernel
theorem mm_M_text : MMc yM_text cM_text 3 (some .int) 1 := ⟨hz_in 1674 (by decide +kernel) (by decide +kernel), hz_in 147 (by decide +kernel) (by decide +kernel), by decide +kernel, by decide⟩
theorem mv_M_text : MMv yM_text 12 := ⟨hz_in 1672 (by decide +kernel) (by decide +kernel), hz_in 1673 (by decide +kernel) (by decide +kernel), _, _, rfl, by decide⟩
theorem ml_L_53 : Cond.methodLink "LastWordHillLaw" 53 yM_text ∈ hz_wt := hz_in 1671 (by decide +kernel) (by decide +kernel)
theorem dL_law_498 : decode cL_law 498 = .ok (.if_icmp .eq 871, 3) := by decide +kernel
theorem dL_law_501 : decode cL_law 501 = .ok (.iconst 0, 1) := by decide +kernel
theorem dL_law_502 : decode cL_law 502 = .ok (.ireturn, 1) := by decide +kernel
theorem dL_law_503 : decode cL_law 503 = .ok (.aload_n 1, 1) := by decide +kernel
theorem dL_law_504 : decode cL_law 504 = .ok (.aload_n 0, 1) := by decide +kernel
theorem dL_law_505 : decode cL_law 505 = .ok (.iload_n 3, 1) := by decide +kernel
theorem dL_law_506 : decode cL_law 506 = .ok (.iconst 1, 1) := by decide +kernel
theorem dL_law_507 : decode cL_law 507 = .ok (.iadd, 1) := by decide +kernel
theorem dL_law_508 : decode cL_law 508 = .ok (.iaload, 1) := by decide +kernel
theorem dL_law_509 : decode cL_law 509 = .ok (.invokevirtual 54, 3) := by decide +kernel
theorem mm_H_fault : MMc yH_fault cH_fault 2 (some .int) 1 := ⟨hz_in 1090 (by decide +kernel) (by decide +kernel), hz_in 134 (by decide +kernel) (by decide +kernel), by decide +kernel, by decide⟩
theorem mv_H_fault : MMv yH_fault 11 := ⟨hz_in 1088 (by decide +kernel) (by decide +kernel), hz_in 1089 (by decide +kernel) (by decide +kernel), _, _, rfl, by decide⟩
theorem ml_L_54 : Cond.methodLink "LastWordHillLaw" 54 yH_fault ∈ hz_wt := hz_in 1087 (by decide +kernel) (by decide +kernel)
theorem dL_law_512 : decode cL_law 512 = .ok (.aload_n 2, 1) := by decide +kernel
theorem dL_law_513 : decode cL_law 513 = .ok (.aload_n 0, 1) := by decide +kernel
theorem dL_law_514 : decode cL_law 514 = .ok (.iload_n 3, 1) := by decide +kernel
theorem dL_law_515 : decode cL_law 515 = .ok (.iconst 1, 1) := by decide +kernel
theorem dL_law_516 : decode cL_law 516 = .ok (.iadd, 1) := by decide +kernel
theorem dL_law_517 : decode cL_law 517 = .ok (.iaload, 1) := by decide +kernel
theorem dL_law_518 : decode cL_law 518 = .ok (.invokevirtual 57, 3) := by decide +kernel
theorem mm_M_fault : MMc yM_fault cM_fault 2 (some .int) 1 := ⟨hz_in 1802 (by decide +kernel) (by decide +kernel), hz_in 147 (by decide +kernel) (by decide +kernel), by decide +kernel, by decide⟩
theorem mv_M_fault : MMv yM_fault 12 := ⟨hz_in 1800 (by decide +kernel) (by decide +kernel), hz_in 1801 (by decide +kernel) (by decide +kernel), _, _, rfl, by decide⟩
theorem ml_L_57 : Cond.methodLink "LastWordHillLaw" 57 yM_fault ∈ hz_wt := hz_in 1799 (by decide +kernel) (by decide +kernel)
theorem dL_law_521 : decode cL_law 521 = .ok (.if_icmp .eq 848, 3) := by decide +kernel
theorem dL_law_524 : decode cL_law 524 = .ok (.iconst 0, 1) := by decide +kernel
theorem dL_law_525 : decode cL_law 525 = .ok (.ireturn, 1) := by decide +kernel
theorem dL_law_526 : decode cL_law 526 = .ok (.aload_n 1, 1) := by decide +kernel
theorem dL_law_527 : decode cL_law 527 = .ok (.aload_n 0, 1) := by decide +kernel
theorem dL_law_528 : decode cL_law 528 = .ok (.iload_n 3, 1) := by decide +kernel
theorem dL_law_529 : decode cL_law 529 = .ok (.iconst 1, 1) := by decide +kernel
theorem dL_law_530 : decode cL_law 530 = .ok (.iadd, 1) := by decide +kernel
theorem dL_law_531 : decode cL_law 531 = .ok (.iaload, 1) := by decide +kernel
theorem dL_law_532 : decode cL_law 532 = .ok (.aload_n 0, 1) := by decide +kernel
theorem dL_law_533 : decode cL_law 533 = .ok (.iload_n 3, 1) := by decide +kernel
theorem dL_law_534 : decode cL_law 534 = .ok (.iconst 2, 1) := by decide +kernel
theorem dL_law_535 : decode cL_law 535 = .ok (.iadd, 1) := by decide +kernel
theorem dL_law_536 : decode cL_law 536 = .ok (.iaload, 1) := by decide +kernel
theorem dL_law_537 : decode cL_law 537 = .ok (.invokevirtual 58, 3) := by decide +kernel
theorem mm_H_of : MMc yH_of cH_of 3 (some .int) 2 := ⟨hz_in 1094 (by decide +kernel) (by decide +kernel), hz_in 134 (by decide +kernel) (by decide +kernel), by decide +kernel, by decide⟩
theorem mv_H_of : MMv yH_of 11 := ⟨hz_in 1092 (by decide +kernel) (by decide +kernel), hz_in 1093 (by decide +kernel) (by decide +kernel), _, _, rfl, by decide⟩
theorem ml_L_58 : Cond.methodLink "LastWordHillLaw" 58 yH_of ∈ hz_wt := hz_in 1091 (by decide +kernel) (by decide +kernel)
theorem dL_law_540 : decode cL_law 540 = .ok (.aload_n 2, 1) := by decide +kernel
theorem dL_law_541 : decode cL_law 541 = .ok (.aload_n 0, 1) := by decide +kernel
theorem dL_law_542 : decode cL_law 542 = .ok (.iload_n 3, 1) := by decide +kernel
theorem dL_law_543 : decode cL_law 543 = .ok (.iconst 1, 1) := by decide +kernel
theorem dL_law_544 : decode cL_law 544 = .ok (.iadd, 1) := by decide +kernel
theorem dL_law_545 : decode cL_law 545 = .ok (.iaload, 1) := by decide +kernel
theorem dL_law_546 : decode cL_law 546 = .ok (.aload_n 0, 1) := by decide +kernel
theorem dL_law_547 : decode cL_law 547 = .ok (.iload_n 3, 1) := by decide +kernel
theorem dL_law_548 : decode cL_law 548 = .ok (.iconst 2, 1) := by decide +kernel
theorem dL_law_549 : decode cL_law 549 = .ok (.iadd, 1) := by decide +kernel
theorem dL_law_550 : decode cL_law 550 = .ok (.iaload, 1) := by decide +kernel
theorem dL_law_551 : decode cL_law 551 = .ok (.invokevirtual 62, 3) := by decide +kernel
theorem mm_M_of : MMc yM_of cM_of 3 (some .int) 2 := ⟨hz_in 1924 (by decide +kernel) (by decide +kernel), hz_in 147 (by decide +kernel) (by decide +kernel), by decide +kernel, by decide⟩
theorem mv_M_of : MMv yM_of 12 := ⟨hz_in 1922 (by decide +kernel) (by decide +kernel), hz_in 1923 (by decide +kernel) (by decide +kernel), _, _, rfl, by decide⟩
theorem ml_L_62 : Cond.methodLink "LastWordHillLaw" 62 yM_of ∈ hz_wt := hz_in 1921 (by decide +kernel) (by decide +kernel)
theorem dL_law_554 : decode cL_law 554 = .ok (.if_icmp .eq 815, 3) := by decide +kernel
theorem dL_law_557 : decode cL_law 557 = .ok (.iconst 0, 1) := by decide +kernel
theorem dL_law_558 : decode cL_law 558 = .ok (.ireturn, 1) := by decide +kernel
theorem dL_law_559 : decode cL_law 559 = .ok (.aload_n 1, 1) := by decide +kernel
theorem dL_law_560 : decode cL_law 560 = .ok (.aload_n 0, 1) := by decide +kernel
theorem dL_law_561 : decode cL_law 561 = .ok (.iload_n 3, 1) := by decide +kernel
theorem dL_law_562 : decode cL_law 562 = .ok (.iconst 1, 1) := by decide +kernel
theorem dL_law_563 : decode cL_law 563 = .ok (.iadd, 1) := by decide +kernel
theorem dL_law_564 : decode cL_law 564 = .ok (.iaload, 1) := by decide +kernel
theorem dL_law_565 : decode cL_law 565 = .ok (.aload_n 0, 1) := by decide +kernel
theorem dL_law_566 : decode cL_law 566 = .ok (.iload_n 3, 1) := by decide +kernel
theorem dL_law_567 : decode cL_law 567 = .ok (.iconst 2, 1) := by decide +kernel
theorem dL_law_568 : decode cL_law 568 = .ok (.iadd, 1) := by decide +kernel
theorem dL_law_569 : decode cL_law 569 = .ok (.iaload, 1) := by decide +kernel
theorem dL_law_570 : decode cL_law 570 = .ok (.invokevirtual 63, 3) := by decide +kernel
theorem mm_H_book : MMc yH_book cH_book 4 (some .int) 2 := ⟨hz_in 1099 (by decide +kernel) (by decide +kernel), hz_in 134 (by decide +kernel) (by decide +kernel), by decide +kernel, by decide⟩
theorem mv_H_book : MMv yH_book 11 := ⟨hz_in 1097 (by decide +kernel) (by decide +kernel), hz_in 1098 (by decide +kernel) (by decide +kernel), _, _, rfl, by decide⟩
theorem ml_L_63 : Cond.methodLink "LastWordHillLaw" 63 yH_book ∈ hz_wt := hz_in 1096 (by decide +kernel) (by decide +kernel)
theorem dL_law_573 : decode cL_law 573 = .ok (.aload_n 2, 1) := by decide +kernel
theorem dL_law_574 : decode cL_law 574 = .ok (.aload_n 0, 1) := by decide +kernel
theorem dL_law_575 : decode cL_law 575 = .ok (.iload_n 3, 1) := by decide +kernel
theorem dL_law_576 : decode cL_law 576 = .ok (.iconst 1, 1) := by decide +kernel
theorem dL_law_577 : decode cL_law 577 = .ok (.iadd, 1) := by decide +kernel
theorem dL_law_578 : decode cL_law 578 = .ok (.iaload, 1) := by decide +kernel
theorem dL_law_579 : decode cL_law 579 = .ok (.aload_n 0, 1) := by decide +kernel
theorem dL_law_580 : decode cL_law 580 = .ok (.iload_n 3, 1) := by decide +kernel
theorem dL_law_581 : decode cL_law 581 = .ok (.iconst 2, 1) := by decide +kernel
theorem dL_law_582 : decode cL_law 582 = .ok (.iadd, 1) := by decide +kernel
theorem dL_law_583 : decode cL_law 583 = .ok (.iaload, 1) := by decide +kernel
theorem dL_law_584 : decode cL_law 584 = .ok (.invokevirtual 66, 3) := by decide +kernel
theorem mm_M_book : MMc yM_book cM_book 3 (some .int) 2 := ⟨hz_in 1928 (by decide +kernel) (by decide +kernel), hz_in 147 (by decide +kernel) (by decide +kernel), by decide +kernel, by decide⟩
theorem mv_M_book : MMv yM_book 12 := ⟨hz_in 1926 (by decide +kernel) (by decide +kernel), hz_in 1927 (by decide +kernel) (by decide +kernel), _, _, rfl, by decide⟩
theorem ml_L_66 : Cond.methodLink "LastWordHillLaw" 66 yM_book ∈ hz_wt := hz_in 1925 (by decide +kernel) (by decide +kernel)
theorem dL_law_587 : decode cL_law 587 = .ok (.if_icmp .eq 782, 3) := by decide +kernel
theorem dL_law_590 : decode cL_law 590 = .ok (.iconst 0, 1) := by decide +kernel
theorem dL_law_591 : decode cL_law 591 = .ok (.ireturn, 1) := by decide +kernel
theorem dL_law_592 : decode cL_law 592 = .ok (.aload_n 1, 1) := by decide +kernel
theorem dL_law_593 : decode cL_law 593 = .ok (.aload_n 0, 1) := by decide +kernel
theorem dL_law_594 : decode cL_law 594 = .ok (.iload_n 3, 1) := by decide +kernel
theorem dL_law_595 : decode cL_law 595 = .ok (.iconst 1, 1) := by decide +kernel
theorem dL_law_596 : decode cL_law 596 = .ok (.iadd, 1) := by decide +kernel
theorem dL_law_597 : decode cL_law 597 = .ok (.iaload, 1) := by decide +kernel
theorem dL_law_598 : decode cL_law 598 = .ok (.aload_n 0, 1) := by decide +kernel
theorem dL_law_599 : decode cL_law 599 = .ok (.iload_n 3, 1) := by decide +kernel
theorem dL_law_600 : decode cL_law 600 = .ok (.iconst 2, 1) := by decide +kernel
theorem dL_law_601 : decode cL_law 601 = .ok (.iadd, 1) := by decide +kernel
theorem dL_law_602 : decode cL_law 602 = .ok (.iaload, 1) := by decide +kernel
theorem dL_law_603 : decode cL_law 603 = .ok (.invokevirtual 67, 3) := by decide +kernel
theorem mm_H_goes : MMc yH_goes cH_goes 4 (some .int) 2 := ⟨hz_in 1104 (by decide +kernel) (by decide +kernel), hz_in 134 (by decide +kernel) (by decide +kernel), by decide +kernel, by decide⟩
theorem mv_H_goes : MMv yH_goes 11 := ⟨hz_in 1102 (by decide +kernel) (by decide +kernel), hz_in 1103 (by decide +kernel) (by decide +kernel), _, _, rfl, by decide⟩
theorem ml_L_67 : Cond.methodLink "LastWordHillLaw" 67 yH_goes ∈ hz_wt := hz_in 1101 (by decide +kernel) (by decide +kernel)
theorem dL_law_606 : decode cL_law 606 = .ok (.aload_n 2, 1) := by decide +kernel
theorem dL_law_607 : decode cL_law 607 = .ok (.aload_n 0, 1) := by decide +kernel
theorem dL_law_608 : decode cL_law 608 = .ok (.iload_n 3, 1) := by decide +kernel
theorem dL_law_609 : decode cL_law 609 = .ok (.iconst 1, 1) := by decide +kernel
theorem dL_law_610 : decode cL_law 610 = .ok (.iadd, 1) := by decide +kernel
theorem dL_law_611 : decode cL_law 611 = .ok (.iaload, 1) := by decide +kernel
theorem dL_law_612 : decode cL_law 612 = .ok (.aload_n 0, 1) := by decide +kernel
theorem dL_law_613 : decode cL_law 613 = .ok (.iload_n 3, 1) := by decide +kernel
theorem dL_law_614 : decode cL_law 614 = .ok (.iconst 2, 1) := by decide +kernel
theorem dL_law_615 : decode cL_law 615 = .ok (.iadd, 1) := by decide +kernel
theorem dL_law_616 : decode cL_law 616 = .ok (.iaload, 1) := by decide +kernel
theorem dL_law_617 : decode cL_law 617 = .ok (.invokevirtual 70, 3) := by decide +kernel
theorem mm_M_goes : MMc yM_goes cM_goes 6 (some .int) 2 := ⟨hz_in 1932 (by decide +kernel) (by decide +kernel), hz_in 147 (by decide +kernel) (by decide +kernel), by decide +kernel, by decide⟩
theorem mv_M_goes : MMv yM_goes 12 := ⟨hz_in 1930 (by decide +kernel) (by decide +kernel), hz_in 1931 (by decide +kernel) (by decide +kernel), _, _, rfl, by decide⟩
theorem ml_L_70 : Cond.methodLink "LastWordHillLaw" 70 yM_goes ∈ hz_wt := hz_in 1929 (by decide +kernel) (by decide +kernel)
theorem dL_law_620 : decode cL_law 620 = .ok (.if_icmp .eq 749, 3) := by decide +kernel
theorem dL_law_623 : decode cL_law 623 = .ok (.iconst 0, 1) := by decide +kernel
theorem dL_law_624 : decode cL_law 624 = .ok (.ireturn, 1) := by decide +kernel
theorem dL_law_625 : decode cL_law 625 = .ok (.aload_n 1, 1) := by decide +kernel
theorem dL_law_626 : decode cL_law 626 = .ok (.aload_n 0, 1) := by decide +kernel
theorem dL_law_627 : decode cL_law 627 = .ok (.iload_n 3, 1) := by decide +kernel
theorem dL_law_628 : decode cL_law 628 = .ok (.iconst 1, 1) := by decide +kernel
theorem dL_law_629 : decode cL_law 629 = .ok (.iadd, 1) := by decide +kernel
theorem dL_law_630 : decode cL_law 630 = .ok (.iaload, 1) := by decide +kernel
theorem dL_law_631 : decode cL_law 631 = .ok (.invokevirtual 71, 3) := by decide +kernel
theorem mm_H_keeps : MMc yH_keeps cH_keeps 5 (some .int) 1 := ⟨hz_in 1114 (by decide +kernel) (by decide +kernel), hz_in 134 (by decide +kernel) (by decide +kernel), by decide +kernel, by decide⟩
theorem mv_H_keeps : MMv yH_keeps 11 := ⟨hz_in 1112 (by decide +kernel) (by decide +kernel), hz_in 1113 (by decide +kernel) (by decide +kernel), _, _, rfl, by decide⟩
theorem ml_L_71 : Cond.methodLink "LastWordHillLaw" 71 yH_keeps ∈ hz_wt := hz_in 1111 (by decide +kernel) (by decide +kernel)
theorem dL_law_634 : decode cL_law 634 = .ok (.aload_n 2, 1) := by decide +kernel
theorem dL_law_635 : decode cL_law 635 = .ok (.aload_n 0, 1) := by decide +kernel
theorem dL_law_636 : decode cL_law 636 = .ok (.iload_n 3, 1) := by decide +kernel
theorem dL_law_637 : decode cL_law 637 = .ok (.iconst 1, 1) := by decide +kernel
theorem dL_law_638 : decode cL_law 638 = .ok (.iadd, 1) := by decide +kernel
theorem dL_law_639 : decode cL_law 639 = .ok (.iaload, 1) := by decide +kernel
theorem dL_law_640 : decode cL_law 640 = .ok (.invokevirtual 74, 3) := by decide +kernel
theorem mm_M_keeps : MMc yM_keeps cM_keeps 5 (some .int) 1 := ⟨hz_in 1944 (by decide +kernel) (by decide +kernel), hz_in 147 (by decide +kernel) (by decide +kernel), by decide +kernel, by decide⟩
theorem mv_M_keeps : MMv yM_keeps 12 := ⟨hz_in 1942 (by decide +kernel) (by decide +kernel), hz_in 1943 (by decide +kernel) (by decide +kernel), _, _, rfl, by decide⟩
theorem ml_L_74 : Cond.methodLink "LastWordHillLaw" 74 yM_keeps ∈ hz_wt := hz_in 1941 (by decide +kernel) (by decide +kernel)
theorem dL_law_643 : decode cL_law 643 = .ok (.if_icmp .eq 726, 3) := by decide +kernel
theorem dL_law_646 : decode cL_law 646 = .ok (.iconst 0, 1) := by decide +kernel
theorem dL_law_647 : decode cL_law 647 = .ok (.ireturn, 1) := by decide +kernel
theorem dL_law_648 : decode cL_law 648 = .ok (.aload_n 1, 1) := by decide +kernel
theorem dL_law_649 : decode cL_law 649 = .ok (.aload_n 0, 1) := by decide +kernel
theorem dL_law_650 : decode cL_law 650 = .ok (.iload_n 3, 1) := by decide +kernel
theorem dL_law_651 : decode cL_law 651 = .ok (.iconst 1, 1) := by decide +kernel
theorem dL_law_652 : decode cL_law 652 = .ok (.iadd, 1) := by decide +kernel
theorem dL_law_653 : decode cL_law 653 = .ok (.iaload, 1) := by decide +kernel
theorem dL_law_654 : decode cL_law 654 = .ok (.invokevirtual 75, 3) := by decide +kernel
theorem mm_H_earliest : MMc yH_earliest cH_earliest 3 (some .int) 1 := ⟨hz_in 1118 (by decide +kernel) (by decide +kernel), hz_in 134 (by decide +kernel) (by decide +kernel), by decide +kernel, by decide⟩
theorem mv_H_earliest : MMv yH_earliest 11 := ⟨hz_in 1116 (by decide +kernel) (by decide +kernel), hz_in 1117 (by decide +kernel) (by decide +kernel), _, _, rfl, by decide⟩
theorem ml_L_75 : Cond.methodLink "LastWordHillLaw" 75 yH_earliest ∈ hz_wt := hz_in 1115 (by decide +kernel) (by decide +kernel)
theorem dL_law_657 : decode cL_law 657 = .ok (.aload_n 2, 1) := by decide +kernel
theorem dL_law_658 : decode cL_law 658 = .ok (.aload_n 0, 1) := by decide +kernel
theorem dL_law_659 : decode cL_law 659 = .ok (.iload_n 3, 1) := by decide +kernel
theorem dL_law_660 : decode cL_law 660 = .ok (.iconst 1, 1) := by decide +kernel
theorem dL_law_661 : decode cL_law 661 = .ok (.iadd, 1) := by decide +kernel
theorem dL_law_662 : decode cL_law 662 = .ok (.iaload, 1) := by decide +kernel
theorem dL_law_663 : decode cL_law 663 = .ok (.invokevirtual 78, 3) := by decide +kernel
theorem mm_M_earliest : MMc yM_earliest cM_earliest 3 (some .int) 1 := ⟨hz_in 1948 (by decide +kernel) (by decide +kernel), hz_in 147 (by decide +kernel) (by decide +kernel), by decide +kernel, by decide⟩
theorem mv_M_earliest : MMv yM_earliest 12 := ⟨hz_in 1946 (by decide +kernel) (by decide +kernel), hz_in 1947 (by decide +kernel) (by decide +kernel), _, _, rfl, by decide⟩
theorem ml_L_78 : Cond.methodLink "LastWordHillLaw" 78 yM_earliest ∈ hz_wt := hz_in 1945 (by decide +kernel) (by decide +kernel)
theorem dL_law_666 : decode cL_law 666 = .ok (.if_icmp .eq 703, 3) := by decide +kernel
theorem dL_law_669 : decode cL_law 669 = .ok (.iconst 0, 1) := by decide +kernel
theorem dL_law_670 : decode cL_law 670 = .ok (.ireturn, 1) := by decide +kernel
theorem dL_law_671 : decode cL_law 671 = .ok (.aload_n 1, 1) := by decide +kernel
theorem dL_law_672 : decode cL_law 672 = .ok (.aload_n 0, 1) := by decide +kernel
theorem dL_law_673 : decode cL_law 673 = .ok (.iload_n 3, 1) := by decide +kernel
theorem dL_law_674 : decode cL_law 674 = .ok (.iconst 1, 1) := by decide +kernel
theorem dL_law_675 : decode cL_law 675 = .ok (.iadd, 1) := by decide +kernel
theorem dL_law_676 : decode cL_law 676 = .ok (.iaload, 1) := by decide +kernel
theorem dL_law_677 : decode cL_law 677 = .ok (.aload_n 0, 1) := by decide +kernel
theorem dL_law_678 : decode cL_law 678 = .ok (.iload_n 3, 1) := by decide +kernel
theorem dL_law_679 : decode cL_law 679 = .ok (.iconst 2, 1) := by decide +kernel
theorem dL_law_680 : decode cL_law 680 = .ok (.iadd, 1) := by decide +kernel
theorem dL_law_681 : decode cL_law 681 = .ok (.iaload, 1) := by decide +kernel
theorem dL_law_682 : decode cL_law 682 = .ok (.invokevirtual 79, 3) := by decide +kernel
theorem mm_H_fits : MMc yH_fits cH_fits 3 (some .int) 2 := ⟨hz_in 1123 (by decide +kernel) (by decide +kernel), hz_in 134 (by decide +kernel) (by decide +kernel), by decide +kernel, by decide⟩
theorem mv_H_fits : MMv yH_fits 11 := ⟨hz_in 1121 (by decide +kernel) (by decide +kernel), hz_in 1122 (by decide +kernel) (by decide +kernel), _, _, rfl, by decide⟩
theorem ml_L_79 : Cond.methodLink "LastWordHillLaw" 79 yH_fits ∈ hz_wt := hz_in 1120 (by decide +kernel) (by decide +kernel)
theorem dL_law_685 : decode cL_law 685 = .ok (.aload_n 2, 1) := by decide +kernel
theorem dL_law_686 : decode cL_law 686 = .ok (.aload_n 0, 1) := by decide +kernel
theorem dL_law_687 : decode cL_law 687 = .ok (.iload_n 3, 1) := by decide +kernel
theorem dL_law_688 : decode cL_law 688 = .ok (.iconst 1, 1) := by decide +kernel
theorem dL_law_689 : decode cL_law 689 = .ok (.iadd, 1) := by decide +kernel
theorem dL_law_690 : decode cL_law 690 = .ok (.iaload, 1) := by decide +kernel
theorem dL_law_691 : decode cL_law 691 = .ok (.aload_n 0, 1) := by decide +kernel
theorem dL_law_692 : decode cL_law 692 = .ok (.iload_n 3, 1) := by decide +kernel
theorem dL_law_693 : decode cL_law 693 = .ok (.iconst 2, 1) := by decide +kernel
theorem dL_law_694 : decode cL_law 694 = .ok (.iadd, 1) := by decide +kernel
theorem dL_law_695 : decode cL_law 695 = .ok (.iaload, 1) := by decide +kernel
theorem dL_law_696 : decode cL_law 696 = .ok (.invokevirtual 82, 3) := by decide +kernel
theorem mm_M_fits : MMc yM_fits cM_fits 4 (some .int) 2 := ⟨hz_in 1952 (by decide +kernel) (by decide +kernel), hz_in 147 (by decide +kernel) (by decide +kernel), by decide +kernel, by decide⟩
theorem mv_M_fits : MMv yM_fits 12 := ⟨hz_in 1950 (by decide +kernel) (by decide +kernel), hz_in 1951 (by decide +kernel) (by decide +kernel), _, _, rfl, by decide⟩
theorem ml_L_82 : Cond.methodLink "LastWordHillLaw" 82 yM_fits ∈ hz_wt := hz_in 1949 (by decide +kernel) (by decide +kernel)
theorem dL_law_699 : decode cL_law 699 = .ok (.if_icmp .eq 670, 3) := by decide +kernel
theorem dL_law_702 : decode cL_law 702 = .ok (.iconst 0, 1) := by decide +kernel
theorem dL_law_703 : decode cL_law 703 = .ok (.ireturn, 1) := by decide +kernel
theorem dL_law_704 : decode cL_law 704 = .ok (.aload_n 1, 1) := by decide +kernel
theorem dL_law_705 : decode cL_law 705 = .ok (.aload_n 0, 1) := by decide +kernel
theorem dL_law_706 : decode cL_law 706 = .ok (.iload_n 3, 1) := by decide +kernel
theorem dL_law_707 : decode cL_law 707 = .ok (.iconst 1, 1) := by decide +kernel
theorem dL_law_708 : decode cL_law 708 = .ok (.iadd, 1) := by decide +kernel
theorem dL_law_709 : decode cL_law 709 = .ok (.iaload, 1) := by decide +kernel
theorem dL_law_710 : decode cL_law 710 = .ok (.aload_n 0, 1) := by decide +kernel
theorem dL_law_711 : decode cL_law 711 = .ok (.iload_n 3, 1) := by decide +kernel
theorem dL_law_712 : decode cL_law 712 = .ok (.iconst 2, 1) := by decide +kernel
theorem dL_law_713 : decode cL_law 713 = .ok (.iadd, 1) := by decide +kernel
theorem dL_law_714 : decode cL_law 714 = .ok (.iaload, 1) := by decide +kernel
theorem dL_law_715 : decode cL_law 715 = .ok (.ifCond .eq 7, 3) := by decide +kernel
theorem dL_law_723 : decode cL_law 723 = .ok (.invokevirtual 83, 3) := by decide +kernel
theorem mm_H_answer : MMc yH_answer cH_answer 3 (some .int) 2 := ⟨hz_in 1154 (by decide +kernel) (by decide +kernel), hz_in 134 (by decide +kernel) (by decide +kernel), by decide +kernel, by decide⟩
theorem mv_H_answer : MMv yH_answer 11 := ⟨hz_in 1152 (by decide +kernel) (by decide +kernel), hz_in 1153 (by decide +kernel) (by decide +kernel), _, _, rfl, by decide⟩
theorem ml_L_83 : Cond.methodLink "LastWordHillLaw" 83 yH_answer ∈ hz_wt := hz_in 1151 (by decide +kernel) (by decide +kernel)
theorem dL_law_726 : decode cL_law 726 = .ok (.aload_n 2, 1) := by decide +kernel
theorem dL_law_727 : decode cL_law 727 = .ok (.aload_n 0, 1) := by decide +kernel
theorem dL_law_728 : decode cL_law 728 = .ok (.iload_n 3, 1) := by decide +kernel
theorem dL_law_729 : decode cL_law 729 = .ok (.iconst 1, 1) := by decide +kernel
theorem dL_law_730 : decode cL_law 730 = .ok (.iadd, 1) := by decide +kernel
theorem dL_law_731 : decode cL_law 731 = .ok (.iaload, 1) := by decide +kernel
theorem dL_law_732 : decode cL_law 732 = .ok (.aload_n 0, 1) := by decide +kernel
theorem dL_law_733 : decode cL_law 733 = .ok (.iload_n 3, 1) := by decide +kernel
theorem dL_law_734 : decode cL_law 734 = .ok (.iconst 2, 1) := by decide +kernel
theorem dL_law_735 : decode cL_law 735 = .ok (.iadd, 1) := by decide +kernel
theorem dL_law_736 : decode cL_law 736 = .ok (.iaload, 1) := by decide +kernel
theorem dL_law_737 : decode cL_law 737 = .ok (.ifCond .eq 7, 3) := by decide +kernel
theorem dL_law_745 : decode cL_law 745 = .ok (.invokevirtual 87, 3) := by decide +kernel
theorem mm_M_answer : MMc yM_answer cM_answer 3 (some .int) 2 := ⟨hz_in 1973 (by decide +kernel) (by decide +kernel), hz_in 147 (by decide +kernel) (by decide +kernel), by decide +kernel, by decide⟩
theorem mv_M_answer : MMv yM_answer 12 := ⟨hz_in 1971 (by decide +kernel) (by decide +kernel), hz_in 1972 (by decide +kernel) (by decide +kernel), _, _, rfl, by decide⟩
theorem ml_L_87 : Cond.methodLink "LastWordHillLaw" 87 yM_answer ∈ hz_wt := hz_in 1970 (by decide +kernel) (by decide +kernel)
theorem dL_law_748 : decode cL_law 748 = .ok (.if_icmp .eq 621, 3) := by decide +kernel
theorem dL_law_751 : decode cL_law 751 = .ok (.iconst 0, 1) := by decide +kernel
theorem dL_law_752 : decode cL_law 752 = .ok (.ireturn, 1) := by decide +kernel
theorem dL_law_744 : decode cL_law 744 = .ok (.iconst 0, 1) := by decide +kernel
theorem dL_law_740 : decode cL_law 740 = .ok (.iconst 1, 1) := by decide +kernel
theorem dL_law_741 : decode cL_law 741 = .ok (.goto 4, 3) := by decide +kernel
theorem dL_law_722 : decode cL_law 722 = .ok (.iconst 0, 1) := by decide +kernel
theorem dL_law_718 : decode cL_law 718 = .ok (.iconst 1, 1) := by decide +kernel
theorem dL_law_719 : decode cL_law 719 = .ok (.goto 4, 3) := by decide +kernel
theorem dL_law_753 : decode cL_law 753 = .ok (.aload_n 1, 1) := by decide +kernel
theorem dL_law_754 : decode cL_law 754 = .ok (.aload_n 0, 1) := by decide +kernel
theorem dL_law_755 : decode cL_law 755 = .ok (.iload_n 3, 1) := by decide +kernel
theorem dL_law_756 : decode cL_law 756 = .ok (.iconst 1, 1) := by decide +kernel
theorem dL_law_757 : decode cL_law 757 = .ok (.iadd, 1) := by decide +kernel
theorem dL_law_758 : decode cL_law 758 = .ok (.iaload, 1) := by decide +kernel
theorem dL_law_759 : decode cL_law 759 = .ok (.invokevirtual 88, 3) := by decide +kernel
theorem mm_H_could : MMc yH_could cH_could 2 (some .int) 1 := ⟨hz_in 1160 (by decide +kernel) (by decide +kernel), hz_in 134 (by decide +kernel) (by decide +kernel), by decide +kernel, by decide⟩
theorem mv_H_could : MMv yH_could 11 := ⟨hz_in 1158 (by decide +kernel) (by decide +kernel), hz_in 1159 (by decide +kernel) (by decide +kernel), _, _, rfl, by decide⟩
theorem ml_L_88 : Cond.methodLink "LastWordHillLaw" 88 yH_could ∈ hz_wt := hz_in 1157 (by decide +kernel) (by decide +kernel)
theorem dL_law_762 : decode cL_law 762 = .ok (.aload_n 2, 1) := by decide +kernel
theorem dL_law_763 : decode cL_law 763 = .ok (.aload_n 0, 1) := by decide +kernel
theorem dL_law_764 : decode cL_law 764 = .ok (.iload_n 3, 1) := by decide +kernel
theorem dL_law_765 : decode cL_law 765 = .ok (.iconst 1, 1) := by decide +kernel
theorem dL_law_766 : decode cL_law 766 = .ok (.iadd, 1) := by decide +kernel
theorem dL_law_767 : decode cL_law 767 = .ok (.iaload, 1) := by decide +kernel
theorem dL_law_768 : decode cL_law 768 = .ok (.invokevirtual 91, 3) := by decide +kernel
theorem mm_M_could : MMc yM_could cM_could 9 (some .int) 1 := ⟨hz_in 1977 (by decide +kernel) (by decide +kernel), hz_in 147 (by decide +kernel) (by decide +kernel), by decide +kernel, by decide⟩
theorem mv_M_could : MMv yM_could 12 := ⟨hz_in 1975 (by decide +kernel) (by decide +kernel), hz_in 1976 (by decide +kernel) (by decide +kernel), _, _, rfl, by decide⟩
theorem ml_L_91 : Cond.methodLink "LastWordHillLaw" 91 yM_could ∈ hz_wt := hz_in 1974 (by decide +kernel) (by decide +kernel)
theorem dL_law_771 : decode cL_law 771 = .ok (.if_icmp .eq 598, 3) := by decide +kernel
theorem dL_law_774 : decode cL_law 774 = .ok (.iconst 0, 1) := by decide +kernel
theorem dL_law_775 : decode cL_law 775 = .ok (.ireturn, 1) := by decide +kernel
theorem dL_law_776 : decode cL_law 776 = .ok (.aload_n 1, 1) := by decide +kernel
theorem dL_law_777 : decode cL_law 777 = .ok (.aload_n 0, 1) := by decide +kernel
theorem dL_law_778 : decode cL_law 778 = .ok (.iload_n 3, 1) := by decide +kernel
theorem dL_law_779 : decode cL_law 779 = .ok (.iconst 1, 1) := by decide +kernel
theorem dL_law_780 : decode cL_law 780 = .ok (.iadd, 1) := by decide +kernel
theorem dL_law_781 : decode cL_law 781 = .ok (.iaload, 1) := by decide +kernel
theorem dL_law_782 : decode cL_law 782 = .ok (.aload_n 0, 1) := by decide +kernel
theorem dL_law_783 : decode cL_law 783 = .ok (.iload_n 3, 1) := by decide +kernel
theorem dL_law_784 : decode cL_law 784 = .ok (.iconst 2, 1) := by decide +kernel
theorem dL_law_785 : decode cL_law 785 = .ok (.iadd, 1) := by decide +kernel
theorem dL_law_786 : decode cL_law 786 = .ok (.iaload, 1) := by decide +kernel
theorem dL_law_787 : decode cL_law 787 = .ok (.invokevirtual 92, 3) := by decide +kernel
theorem mm_H_watch : MMc yH_watch cH_watch 4 (some .int) 2 := ⟨hz_in 1184 (by decide +kernel) (by decide +kernel), hz_in 134 (by decide +kernel) (by decide +kernel), by decide +kernel, by decide⟩
theorem mv_H_watch : MMv yH_watch 11 := ⟨hz_in 1182 (by decide +kernel) (by decide +kernel), hz_in 1183 (by decide +kernel) (by decide +kernel), _, _, rfl, by decide⟩
theorem ml_L_92 : Cond.methodLink "LastWordHillLaw" 92 yH_watch ∈ hz_wt := hz_in 1181 (by decide +kernel) (by decide +kernel)
theorem dL_law_790 : decode cL_law 790 = .ok (.aload_n 2, 1) := by decide +kernel
theorem dL_law_791 : decode cL_law 791 = .ok (.aload_n 0, 1) := by decide +kernel
theorem dL_law_792 : decode cL_law 792 = .ok (.iload_n 3, 1) := by decide +kernel
theorem dL_law_793 : decode cL_law 793 = .ok (.iconst 1, 1) := by decide +kernel
theorem dL_law_794 : decode cL_law 794 = .ok (.iadd, 1) := by decide +kernel
theorem dL_law_795 : decode cL_law 795 = .ok (.iaload, 1) := by decide +kernel
theorem dL_law_796 : decode cL_law 796 = .ok (.aload_n 0, 1) := by decide +kernel
theorem dL_law_797 : decode cL_law 797 = .ok (.iload_n 3, 1) := by decide +kernel
theorem dL_law_798 : decode cL_law 798 = .ok (.iconst 2, 1) := by decide +kernel
theorem dL_law_799 : decode cL_law 799 = .ok (.iadd, 1) := by decide +kernel
theorem dL_law_800 : decode cL_law 800 = .ok (.iaload, 1) := by decide +kernel
theorem dL_law_801 : decode cL_law 801 = .ok (.invokevirtual 95, 3) := by decide +kernel
theorem mm_M_watch : MMc yM_watch cM_watch 3 (some .int) 2 := ⟨hz_in 1989 (by decide +kernel) (by decide +kernel), hz_in 147 (by decide +kernel) (by decide +kernel), by decide +kernel, by decide⟩
theorem mv_M_watch : MMv yM_watch 12 := ⟨hz_in 1987 (by decide +kernel) (by decide +kernel), hz_in 1988 (by decide +kernel) (by decide +kernel), _, _, rfl, by decide⟩
theorem ml_L_95 : Cond.methodLink "LastWordHillLaw" 95 yM_watch ∈ hz_wt := hz_in 1986 (by decide +kernel) (by decide +kernel)
theorem dL_law_804 : decode cL_law 804 = .ok (.if_icmp .eq 565, 3) := by decide +kernel
theorem dL_law_807 : decode cL_law 807 = .ok (.iconst 0, 1) := by decide +kernel
theorem dL_law_808 : decode cL_law 808 = .ok (.ireturn, 1) := by decide +kernel
theorem dL_law_809 : decode cL_law 809 = .ok (.aload_n 1, 1) := by decide +kernel
theorem dL_law_810 : decode cL_law 810 = .ok (.aload_n 0, 1) := by decide +kernel
theorem dL_law_811 : decode cL_law 811 = .ok (.iload_n 3, 1) := by decide +kernel
theorem dL_law_812 : decode cL_law 812 = .ok (.iconst 1, 1) := by decide +kernel
theorem dL_law_813 : decode cL_law 813 = .ok (.iadd, 1) := by decide +kernel
theorem dL_law_814 : decode cL_law 814 = .ok (.iaload, 1) := by decide +kernel
theorem dL_law_815 : decode cL_law 815 = .ok (.aload_n 0, 1) := by decide +kernel
theorem dL_law_816 : decode cL_law 816 = .ok (.iload_n 3, 1) := by decide +kernel
theorem dL_law_817 : decode cL_law 817 = .ok (.iconst 2, 1) := by decide +kernel
theorem dL_law_818 : decode cL_law 818 = .ok (.iadd, 1) := by decide +kernel
theorem dL_law_819 : decode cL_law 819 = .ok (.iaload, 1) := by decide +kernel
theorem dL_law_820 : decode cL_law 820 = .ok (.invokevirtual 96, 3) := by decide +kernel
theorem mm_H_guard : MMc yH_guard cH_guard 4 (some .int) 2 := ⟨hz_in 1188 (by decide +kernel) (by decide +kernel), hz_in 134 (by decide +kernel) (by decide +kernel), by decide +kernel, by decide⟩
theorem mv_H_guard : MMv yH_guard 11 := ⟨hz_in 1186 (by decide +kernel) (by decide +kernel), hz_in 1187 (by decide +kernel) (by decide +kernel), _, _, rfl, by decide⟩
theorem ml_L_96 : Cond.methodLink "LastWordHillLaw" 96 yH_guard ∈ hz_wt := hz_in 1185 (by decide +kernel) (by decide +kernel)
theorem dL_law_823 : decode cL_law 823 = .ok (.aload_n 2, 1) := by decide +kernel
theorem dL_law_824 : decode cL_law 824 = .ok (.aload_n 0, 1) := by decide +kernel
theorem dL_law_825 : decode cL_law 825 = .ok (.iload_n 3, 1) := by decide +kernel
theorem dL_law_826 : decode cL_law 826 = .ok (.iconst 1, 1) := by decide +kernel
theorem dL_law_827 : decode cL_law 827 = .ok (.iadd, 1) := by decide +kernel
theorem dL_law_828 : decode cL_law 828 = .ok (.iaload, 1) := by decide +kernel
theorem dL_law_829 : decode cL_law 829 = .ok (.aload_n 0, 1) := by decide +kernel
theorem dL_law_830 : decode cL_law 830 = .ok (.iload_n 3, 1) := by decide +kernel
theorem dL_law_831 : decode cL_law 831 = .ok (.iconst 2, 1) := by decide +kernel
theorem dL_law_832 : decode cL_law 832 = .ok (.iadd, 1) := by decide +kernel
theorem dL_law_833 : decode cL_law 833 = .ok (.iaload, 1) := by decide +kernel
theorem dL_law_834 : decode cL_law 834 = .ok (.invokevirtual 99, 3) := by decide +kernel
theorem mm_M_guard : MMc yM_guard cM_guard 4 (some .int) 2 := ⟨hz_in 1993 (by decide +kernel) (by decide +kernel), hz_in 147 (by decide +kernel) (by decide +kernel), by decide +kernel, by decide⟩
theorem mv_M_guard : MMv yM_guard 12 := ⟨hz_in 1991 (by decide +kernel) (by decide +kernel), hz_in 1992 (by decide +kernel) (by decide +kernel), _, _, rfl, by decide⟩
theorem ml_L_99 : Cond.methodLink "LastWordHillLaw" 99 yM_guard ∈ hz_wt := hz_in 1990 (by decide +kernel) (by decide +kernel)
theorem dL_law_837 : decode cL_law 837 = .ok (.if_icmp .eq 532, 3) := by decide +kernel
theorem dL_law_840 : decode cL_law 840 = .ok (.iconst 0, 1) := by decide +kernel
theorem dL_law_841 : decode cL_law 841 = .ok (.ireturn, 1) := by decide +kernel
theorem dL_law_842 : decode cL_law 842 = .ok (.aload_n 1, 1) := by decide +kernel
theorem dL_law_843 : decode cL_law 843 = .ok (.aload_n 0, 1) := by decide +kernel
theorem dL_law_844 : decode cL_law 844 = .ok (.iload_n 3, 1) := by decide +kernel
theorem dL_law_845 : decode cL_law 845 = .ok (.iconst 1, 1) := by decide +kernel
theorem dL_law_846 : decode cL_law 846 = .ok (.iadd, 1) := by decide +kernel
theorem dL_law_847 : decode cL_law 847 = .ok (.iaload, 1) := by decide +kernel
theorem dL_law_848 : decode cL_law 848 = .ok (.aload_n 0, 1) := by decide +kernel
theorem dL_law_849 : decode cL_law 849 = .ok (.iload_n 3, 1) := by decide +kernel
theorem dL_law_850 : decode cL_law 850 = .ok (.iconst 2, 1) := by decide +kernel
theorem dL_law_851 : decode cL_law 851 = .ok (.iadd, 1) := by decide +kernel
theorem dL_law_852 : decode cL_law 852 = .ok (.iaload, 1) := by decide +kernel
theorem dL_law_853 : decode cL_law 853 = .ok (.aload_n 0, 1) := by decide +kernel
theorem dL_law_854 : decode cL_law 854 = .ok (.iload_n 3, 1) := by decide +kernel
theorem dL_law_855 : decode cL_law 855 = .ok (.iconst 3, 1) := by decide +kernel
theorem dL_law_856 : decode cL_law 856 = .ok (.iadd, 1) := by decide +kernel
theorem dL_law_857 : decode cL_law 857 = .ok (.iaload, 1) := by decide +kernel
theorem dL_law_858 : decode cL_law 858 = .ok (.invokevirtual 100, 3) := by decide +kernel
theorem mm_H_step : MMc yH_step cH_step 5 (some .int) 3 := ⟨hz_in 1200 (by decide +kernel) (by decide +kernel), hz_in 134 (by decide +kernel) (by decide +kernel), by decide +kernel, by decide⟩
theorem mv_H_step : MMv yH_step 11 := ⟨hz_in 1198 (by decide +kernel) (by decide +kernel), hz_in 1199 (by decide +kernel) (by decide +kernel), _, _, rfl, by decide⟩
theorem ml_L_100 : Cond.methodLink "LastWordHillLaw" 100 yH_step ∈ hz_wt := hz_in 1197 (by decide +kernel) (by decide +kernel)
theorem dL_law_861 : decode cL_law 861 = .ok (.aload_n 2, 1) := by decide +kernel
theorem dL_law_862 : decode cL_law 862 = .ok (.aload_n 0, 1) := by decide +kernel
theorem dL_law_863 : decode cL_law 863 = .ok (.iload_n 3, 1) := by decide +kernel
theorem dL_law_864 : decode cL_law 864 = .ok (.iconst 1, 1) := by decide +kernel
theorem dL_law_865 : decode cL_law 865 = .ok (.iadd, 1) := by decide +kernel
theorem dL_law_866 : decode cL_law 866 = .ok (.iaload, 1) := by decide +kernel
theorem dL_law_867 : decode cL_law 867 = .ok (.aload_n 0, 1) := by decide +kernel
theorem dL_law_868 : decode cL_law 868 = .ok (.iload_n 3, 1) := by decide +kernel
theorem dL_law_869 : decode cL_law 869 = .ok (.iconst 2, 1) := by decide +kernel
theorem dL_law_870 : decode cL_law 870 = .ok (.iadd, 1) := by decide +kernel
theorem dL_law_871 : decode cL_law 871 = .ok (.iaload, 1) := by decide +kernel
theorem dL_law_872 : decode cL_law 872 = .ok (.aload_n 0, 1) := by decide +kernel
theorem dL_law_873 : decode cL_law 873 = .ok (.iload_n 3, 1) := by decide +kernel
theorem dL_law_874 : decode cL_law 874 = .ok (.iconst 3, 1) := by decide +kernel
theorem dL_law_875 : decode cL_law 875 = .ok (.iadd, 1) := by decide +kernel
theorem dL_law_876 : decode cL_law 876 = .ok (.iaload, 1) := by decide +kernel
theorem dL_law_877 : decode cL_law 877 = .ok (.invokevirtual 103, 3) := by decide +kernel
theorem mm_M_step : MMc yM_step cM_step 5 (some .int) 3 := ⟨hz_in 2001 (by decide +kernel) (by decide +kernel), hz_in 147 (by decide +kernel) (by decide +kernel), by decide +kernel, by decide⟩
theorem mv_M_step : MMv yM_step 12 := ⟨hz_in 1999 (by decide +kernel) (by decide +kernel), hz_in 2000 (by decide +kernel) (by decide +kernel), _, _, rfl, by decide⟩
theorem ml_L_103 : Cond.methodLink "LastWordHillLaw" 103 yM_step ∈ hz_wt := hz_in 1998 (by decide +kernel) (by decide +kernel)
theorem dL_law_880 : decode cL_law 880 = .ok (.if_icmp .eq 489, 3) := by decide +kernel
theorem dL_law_883 : decode cL_law 883 = .ok (.iconst 0, 1) := by decide +kernel
theorem dL_law_884 : decode cL_law 884 = .ok (.ireturn, 1) := by decide +kernel
theorem dL_law_885 : decode cL_law 885 = .ok (.aload_n 1, 1) := by decide +kernel
theorem dL_law_886 : decode cL_law 886 = .ok (.aload_n 0, 1) := by decide +kernel
theorem dL_law_887 : decode cL_law 887 = .ok (.iload_n 3, 1) := by decide +kernel
theorem dL_law_888 : decode cL_law 888 = .ok (.iconst 1, 1) := by decide +kernel
theorem dL_law_889 : decode cL_law 889 = .ok (.iadd, 1) := by decide +kernel
theorem dL_law_890 : decode cL_law 890 = .ok (.iaload, 1) := by decide +kernel
theorem dL_law_891 : decode cL_law 891 = .ok (.aload_n 0, 1) := by decide +kernel
theorem dL_law_892 : decode cL_law 892 = .ok (.iload_n 3, 1) := by decide +kernel
theorem dL_law_893 : decode cL_law 893 = .ok (.iconst 2, 1) := by decide +kernel
theorem dL_law_894 : decode cL_law 894 = .ok (.iadd, 1) := by decide +kernel
theorem dL_law_895 : decode cL_law 895 = .ok (.iaload, 1) := by decide +kernel
theorem dL_law_896 : decode cL_law 896 = .ok (.aload_n 0, 1) := by decide +kernel
theorem dL_law_897 : decode cL_law 897 = .ok (.iload_n 3, 1) := by decide +kernel
theorem dL_law_898 : decode cL_law 898 = .ok (.iconst 3, 1) := by decide +kernel
theorem dL_law_899 : decode cL_law 899 = .ok (.iadd, 1) := by decide +kernel
theorem dL_law_900 : decode cL_law 900 = .ok (.iaload, 1) := by decide +kernel
theorem dL_law_901 : decode cL_law 901 = .ok (.invokevirtual 104, 3) := by decide +kernel
theorem mm_H_down : MMc yH_down cH_down 4 (some .int) 3 := ⟨hz_in 1204 (by decide +kernel) (by decide +kernel), hz_in 134 (by decide +kernel) (by decide +kernel), by decide +kernel, by decide⟩
theorem mv_H_down : MMv yH_down 11 := ⟨hz_in 1202 (by decide +kernel) (by decide +kernel), hz_in 1203 (by decide +kernel) (by decide +kernel), _, _, rfl, by decide⟩
theorem ml_L_104 : Cond.methodLink "LastWordHillLaw" 104 yH_down ∈ hz_wt := hz_in 1201 (by decide +kernel) (by decide +kernel)
theorem dL_law_904 : decode cL_law 904 = .ok (.aload_n 2, 1) := by decide +kernel
theorem dL_law_905 : decode cL_law 905 = .ok (.aload_n 0, 1) := by decide +kernel
theorem dL_law_906 : decode cL_law 906 = .ok (.iload_n 3, 1) := by decide +kernel
theorem dL_law_907 : decode cL_law 907 = .ok (.iconst 1, 1) := by decide +kernel
theorem dL_law_908 : decode cL_law 908 = .ok (.iadd, 1) := by decide +kernel
theorem dL_law_909 : decode cL_law 909 = .ok (.iaload, 1) := by decide +kernel
theorem dL_law_910 : decode cL_law 910 = .ok (.aload_n 0, 1) := by decide +kernel
theorem dL_law_911 : decode cL_law 911 = .ok (.iload_n 3, 1) := by decide +kernel
theorem dL_law_912 : decode cL_law 912 = .ok (.iconst 2, 1) := by decide +kernel
theorem dL_law_913 : decode cL_law 913 = .ok (.iadd, 1) := by decide +kernel
theorem dL_law_914 : decode cL_law 914 = .ok (.iaload, 1) := by decide +kernel
theorem dL_law_915 : decode cL_law 915 = .ok (.aload_n 0, 1) := by decide +kernel
theorem dL_law_916 : decode cL_law 916 = .ok (.iload_n 3, 1) := by decide +kernel
theorem dL_law_917 : decode cL_law 917 = .ok (.iconst 3, 1) := by decide +kernel
theorem dL_law_918 : decode cL_law 918 = .ok (.iadd, 1) := by decide +kernel
theorem dL_law_919 : decode cL_law 919 = .ok (.iaload, 1) := by decide +kernel
theorem dL_law_920 : decode cL_law 920 = .ok (.invokevirtual 107, 3) := by decide +kernel
theorem mm_M_down : MMc yM_down cM_down 6 (some .int) 3 := ⟨hz_in 2005 (by decide +kernel) (by decide +kernel), hz_in 147 (by decide +kernel) (by decide +kernel), by decide +kernel, by decide⟩
theorem mv_M_down : MMv yM_down 12 := ⟨hz_in 2003 (by decide +kernel) (by decide +kernel), hz_in 2004 (by decide +kernel) (by decide +kernel), _, _, rfl, by decide⟩
theorem ml_L_107 : Cond.methodLink "LastWordHillLaw" 107 yM_down ∈ hz_wt := hz_in 2002 (by decide +kernel) (by decide +kernel)
theorem dL_law_923 : decode cL_law 923 = .ok (.if_icmp .eq 446, 3) := by decide +kernel
theorem dL_law_926 : decode cL_law 926 = .ok (.iconst 0, 1) := by decide +kernel
theorem dL_law_927 : decode cL_law 927 = .ok (.ireturn, 1) := by decide +kernel
theorem dL_law_928 : decode cL_law 928 = .ok (.aload_n 1, 1) := by decide +kernel
theorem dL_law_929 : decode cL_law 929 = .ok (.aload_n 0, 1) := by decide +kernel
theorem dL_law_930 : decode cL_law 930 = .ok (.iload_n 3, 1) := by decide +kernel
theorem dL_law_931 : decode cL_law 931 = .ok (.iconst 1, 1) := by decide +kernel
theorem dL_law_932 : decode cL_law 932 = .ok (.iadd, 1) := by decide +kernel
theorem dL_law_933 : decode cL_law 933 = .ok (.iaload, 1) := by decide +kernel
theorem dL_law_934 : decode cL_law 934 = .ok (.aload_n 0, 1) := by decide +kernel
theorem dL_law_935 : decode cL_law 935 = .ok (.iload_n 3, 1) := by decide +kernel
theorem dL_law_936 : decode cL_law 936 = .ok (.iconst 2, 1) := by decide +kernel
theorem dL_law_937 : decode cL_law 937 = .ok (.iadd, 1) := by decide +kernel
theorem dL_law_938 : decode cL_law 938 = .ok (.iaload, 1) := by decide +kernel
theorem dL_law_939 : decode cL_law 939 = .ok (.aload_n 0, 1) := by decide +kernel
theorem dL_law_940 : decode cL_law 940 = .ok (.iload_n 3, 1) := by decide +kernel
theorem dL_law_941 : decode cL_law 941 = .ok (.iconst 3, 1) := by decide +kernel
theorem dL_law_942 : decode cL_law 942 = .ok (.iadd, 1) := by decide +kernel
theorem dL_law_943 : decode cL_law 943 = .ok (.iaload, 1) := by decide +kernel
theorem dL_law_944 : decode cL_law 944 = .ok (.invokevirtual 108, 3) := by decide +kernel
theorem mm_H_spell : MMc yH_spell cH_spell 6 (some .boolean) 3 := ⟨hz_in 1234 (by decide +kernel) (by decide +kernel), hz_in 134 (by decide +kernel) (by decide +kernel), by decide +kernel, by decide⟩
theorem mv_H_spell : MMv yH_spell 11 := ⟨hz_in 1232 (by decide +kernel) (by decide +kernel), hz_in 1233 (by decide +kernel) (by decide +kernel), _, _, rfl, by decide⟩
theorem ml_L_108 : Cond.methodLink "LastWordHillLaw" 108 yH_spell ∈ hz_wt := hz_in 1231 (by decide +kernel) (by decide +kernel)
theorem dL_law_947 : decode cL_law 947 = .ok (.aload_n 2, 1) := by decide +kernel
theorem dL_law_948 : decode cL_law 948 = .ok (.aload_n 0, 1) := by decide +kernel
theorem dL_law_949 : decode cL_law 949 = .ok (.iload_n 3, 1) := by decide +kernel
theorem dL_law_950 : decode cL_law 950 = .ok (.iconst 1, 1) := by decide +kernel
theorem dL_law_951 : decode cL_law 951 = .ok (.iadd, 1) := by decide +kernel
theorem dL_law_952 : decode cL_law 952 = .ok (.iaload, 1) := by decide +kernel
theorem dL_law_953 : decode cL_law 953 = .ok (.aload_n 0, 1) := by decide +kernel
theorem dL_law_954 : decode cL_law 954 = .ok (.iload_n 3, 1) := by decide +kernel
theorem dL_law_955 : decode cL_law 955 = .ok (.iconst 2, 1) := by decide +kernel
theorem dL_law_956 : decode cL_law 956 = .ok (.iadd, 1) := by decide +kernel
theorem dL_law_957 : decode cL_law 957 = .ok (.iaload, 1) := by decide +kernel
theorem dL_law_958 : decode cL_law 958 = .ok (.aload_n 0, 1) := by decide +kernel
theorem dL_law_959 : decode cL_law 959 = .ok (.iload_n 3, 1) := by decide +kernel
theorem dL_law_960 : decode cL_law 960 = .ok (.iconst 3, 1) := by decide +kernel
theorem dL_law_961 : decode cL_law 961 = .ok (.iadd, 1) := by decide +kernel
theorem dL_law_962 : decode cL_law 962 = .ok (.iaload, 1) := by decide +kernel
theorem dL_law_963 : decode cL_law 963 = .ok (.invokevirtual 111, 3) := by decide +kernel
theorem mm_M_spell : MMc yM_spell cM_spell 7 (some .boolean) 3 := ⟨hz_in 2013 (by decide +kernel) (by decide +kernel), hz_in 147 (by decide +kernel) (by decide +kernel), by decide +kernel, by decide⟩
theorem mv_M_spell : MMv yM_spell 12 := ⟨hz_in 2011 (by decide +kernel) (by decide +kernel), hz_in 2012 (by decide +kernel) (by decide +kernel), _, _, rfl, by decide⟩
theorem ml_L_111 : Cond.methodLink "LastWordHillLaw" 111 yM_spell ∈ hz_wt := hz_in 2010 (by decide +kernel) (by decide +kernel)
theorem dL_law_966 : decode cL_law 966 = .ok (.if_icmp .eq 403, 3) := by decide +kernel
theorem dL_law_969 : decode cL_law 969 = .ok (.iconst 0, 1) := by decide +kernel
theorem dL_law_970 : decode cL_law 970 = .ok (.ireturn, 1) := by decide +kernel
theorem dL_law_971 : decode cL_law 971 = .ok (.aload_n 1, 1) := by decide +kernel
theorem dL_law_972 : decode cL_law 972 = .ok (.aload_n 0, 1) := by decide +kernel
theorem dL_law_973 : decode cL_law 973 = .ok (.iload_n 3, 1) := by decide +kernel
theorem dL_law_974 : decode cL_law 974 = .ok (.iconst 1, 1) := by decide +kernel
theorem dL_law_975 : decode cL_law 975 = .ok (.iadd, 1) := by decide +kernel
theorem dL_law_976 : decode cL_law 976 = .ok (.iaload, 1) := by decide +kernel
theorem dL_law_977 : decode cL_law 977 = .ok (.aload_n 0, 1) := by decide +kernel
theorem dL_law_978 : decode cL_law 978 = .ok (.iload_n 3, 1) := by decide +kernel
theorem dL_law_979 : decode cL_law 979 = .ok (.iconst 2, 1) := by decide +kernel
theorem dL_law_980 : decode cL_law 980 = .ok (.iadd, 1) := by decide +kernel
theorem dL_law_981 : decode cL_law 981 = .ok (.iaload, 1) := by decide +kernel
theorem dL_law_982 : decode cL_law 982 = .ok (.invokevirtual 112, 3) := by decide +kernel
theorem mm_H_over : MMc yH_over cH_over 3 (some .int) 2 := ⟨hz_in 1239 (by decide +kernel) (by decide +kernel), hz_in 134 (by decide +kernel) (by decide +kernel), by decide +kernel, by decide⟩
theorem mv_H_over : MMv yH_over 11 := ⟨hz_in 1237 (by decide +kernel) (by decide +kernel), hz_in 1238 (by decide +kernel) (by decide +kernel), _, _, rfl, by decide⟩
theorem ml_L_112 : Cond.methodLink "LastWordHillLaw" 112 yH_over ∈ hz_wt := hz_in 1236 (by decide +kernel) (by decide +kernel)
theorem dL_law_985 : decode cL_law 985 = .ok (.aload_n 2, 1) := by decide +kernel
theorem dL_law_986 : decode cL_law 986 = .ok (.aload_n 0, 1) := by decide +kernel
theorem dL_law_987 : decode cL_law 987 = .ok (.iload_n 3, 1) := by decide +kernel
theorem dL_law_988 : decode cL_law 988 = .ok (.iconst 1, 1) := by decide +kernel
theorem dL_law_989 : decode cL_law 989 = .ok (.iadd, 1) := by decide +kernel
theorem dL_law_990 : decode cL_law 990 = .ok (.iaload, 1) := by decide +kernel
theorem dL_law_991 : decode cL_law 991 = .ok (.aload_n 0, 1) := by decide +kernel
theorem dL_law_992 : decode cL_law 992 = .ok (.iload_n 3, 1) := by decide +kernel
theorem dL_law_993 : decode cL_law 993 = .ok (.iconst 2, 1) := by decide +kernel
theorem dL_law_994 : decode cL_law 994 = .ok (.iadd, 1) := by decide +kernel
theorem dL_law_995 : decode cL_law 995 = .ok (.iaload, 1) := by decide +kernel
theorem dL_law_996 : decode cL_law 996 = .ok (.invokevirtual 115, 3) := by decide +kernel
theorem mm_M_over : MMc yM_over cM_over 5 (some .int) 2 := ⟨hz_in 2017 (by decide +kernel) (by decide +kernel), hz_in 147 (by decide +kernel) (by decide +kernel), by decide +kernel, by decide⟩
theorem mv_M_over : MMv yM_over 12 := ⟨hz_in 2015 (by decide +kernel) (by decide +kernel), hz_in 2016 (by decide +kernel) (by decide +kernel), _, _, rfl, by decide⟩
theorem ml_L_115 : Cond.methodLink "LastWordHillLaw" 115 yM_over ∈ hz_wt := hz_in 2014 (by decide +kernel) (by decide +kernel)
theorem dL_law_999 : decode cL_law 999 = .ok (.if_icmp .eq 370, 3) := by decide +kernel
theorem dL_law_1002 : decode cL_law 1002 = .ok (.iconst 0, 1) := by decide +kernel
theorem dL_law_1003 : decode cL_law 1003 = .ok (.ireturn, 1) := by decide +kernel
theorem dL_law_1004 : decode cL_law 1004 = .ok (.aload_n 1, 1) := by decide +kernel
theorem dL_law_1005 : decode cL_law 1005 = .ok (.aload_n 0, 1) := by decide +kernel
theorem dL_law_1006 : decode cL_law 1006 = .ok (.iload_n 3, 1) := by decide +kernel
theorem dL_law_1007 : decode cL_law 1007 = .ok (.iconst 1, 1) := by decide +kernel
theorem dL_law_1008 : decode cL_law 1008 = .ok (.iadd, 1) := by decide +kernel
theorem dL_law_1009 : decode cL_law 1009 = .ok (.iaload, 1) := by decide +kernel
theorem dL_law_1010 : decode cL_law 1010 = .ok (.aload_n 0, 1) := by decide +kernel
theorem dL_law_1011 : decode cL_law 1011 = .ok (.iload_n 3, 1) := by decide +kernel
theorem dL_law_1012 : decode cL_law 1012 = .ok (.iconst 2, 1) := by decide +kernel
theorem dL_law_1013 : decode cL_law 1013 = .ok (.iadd, 1) := by decide +kernel
theorem dL_law_1014 : decode cL_law 1014 = .ok (.iaload, 1) := by decide +kernel
theorem dL_law_1015 : decode cL_law 1015 = .ok (.invokevirtual 116, 3) := by decide +kernel
theorem mm_H_speaker : MMc yH_speaker cH_speaker 4 (some .int) 2 := ⟨hz_in 1263 (by decide +kernel) (by decide +kernel), hz_in 134 (by decide +kernel) (by decide +kernel), by decide +kernel, by decide⟩
theorem mv_H_speaker : MMv yH_speaker 11 := ⟨hz_in 1261 (by decide +kernel) (by decide +kernel), hz_in 1262 (by decide +kernel) (by decide +kernel), _, _, rfl, by decide⟩
theorem ml_L_116 : Cond.methodLink "LastWordHillLaw" 116 yH_speaker ∈ hz_wt := hz_in 1260 (by decide +kernel) (by decide +kernel)
theorem dL_law_1018 : decode cL_law 1018 = .ok (.aload_n 2, 1) := by decide +kernel
theorem dL_law_1019 : decode cL_law 1019 = .ok (.aload_n 0, 1) := by decide +kernel
theorem dL_law_1020 : decode cL_law 1020 = .ok (.iload_n 3, 1) := by decide +kernel
theorem dL_law_1021 : decode cL_law 1021 = .ok (.iconst 1, 1) := by decide +kernel
theorem dL_law_1022 : decode cL_law 1022 = .ok (.iadd, 1) := by decide +kernel
theorem dL_law_1023 : decode cL_law 1023 = .ok (.iaload, 1) := by decide +kernel
theorem dL_law_1024 : decode cL_law 1024 = .ok (.aload_n 0, 1) := by decide +kernel
theorem dL_law_1025 : decode cL_law 1025 = .ok (.iload_n 3, 1) := by decide +kernel
theorem dL_law_1026 : decode cL_law 1026 = .ok (.iconst 2, 1) := by decide +kernel
theorem dL_law_1027 : decode cL_law 1027 = .ok (.iadd, 1) := by decide +kernel
theorem dL_law_1028 : decode cL_law 1028 = .ok (.iaload, 1) := by decide +kernel
theorem dL_law_1029 : decode cL_law 1029 = .ok (.invokevirtual 119, 3) := by decide +kernel
theorem mm_M_speaker : MMc yM_speaker cM_speaker 3 (some .int) 2 := ⟨hz_in 2029 (by decide +kernel) (by decide +kernel), hz_in 147 (by decide +kernel) (by decide +kernel), by decide +kernel, by decide⟩
theorem mv_M_speaker : MMv yM_speaker 12 := ⟨hz_in 2027 (by decide +kernel) (by decide +kernel), hz_in 2028 (by decide +kernel) (by decide +kernel), _, _, rfl, by decide⟩
theorem ml_L_119 : Cond.methodLink "LastWordHillLaw" 119 yM_speaker ∈ hz_wt := hz_in 2026 (by decide +kernel) (by decide +kernel)
theorem dL_law_1032 : decode cL_law 1032 = .ok (.if_icmp .eq 337, 3) := by decide +kernel
theorem dL_law_1035 : decode cL_law 1035 = .ok (.iconst 0, 1) := by decide +kernel
theorem dL_law_1036 : decode cL_law 1036 = .ok (.ireturn, 1) := by decide +kernel
theorem dL_law_1037 : decode cL_law 1037 = .ok (.aload_n 1, 1) := by decide +kernel
theorem dL_law_1038 : decode cL_law 1038 = .ok (.aload_n 0, 1) := by decide +kernel
theorem dL_law_1039 : decode cL_law 1039 = .ok (.iload_n 3, 1) := by decide +kernel
theorem dL_law_1040 : decode cL_law 1040 = .ok (.iconst 1, 1) := by decide +kernel
theorem dL_law_1041 : decode cL_law 1041 = .ok (.iadd, 1) := by decide +kernel
theorem dL_law_1042 : decode cL_law 1042 = .ok (.iaload, 1) := by decide +kernel
theorem dL_law_1043 : decode cL_law 1043 = .ok (.invokevirtual 120, 3) := by decide +kernel
theorem mm_H_council : MMc yH_council cH_council 4 (some .int) 1 := ⟨hz_in 1267 (by decide +kernel) (by decide +kernel), hz_in 134 (by decide +kernel) (by decide +kernel), by decide +kernel, by decide⟩
theorem mv_H_council : MMv yH_council 11 := ⟨hz_in 1265 (by decide +kernel) (by decide +kernel), hz_in 1266 (by decide +kernel) (by decide +kernel), _, _, rfl, by decide⟩
theorem ml_L_120 : Cond.methodLink "LastWordHillLaw" 120 yH_council ∈ hz_wt := hz_in 1264 (by decide +kernel) (by decide +kernel)
theorem dL_law_1046 : decode cL_law 1046 = .ok (.aload_n 2, 1) := by decide +kernel
theorem dL_law_1047 : decode cL_law 1047 = .ok (.aload_n 0, 1) := by decide +kernel
theorem dL_law_1048 : decode cL_law 1048 = .ok (.iload_n 3, 1) := by decide +kernel
theorem dL_law_1049 : decode cL_law 1049 = .ok (.iconst 1, 1) := by decide +kernel
theorem dL_law_1050 : decode cL_law 1050 = .ok (.iadd, 1) := by decide +kernel
theorem dL_law_1051 : decode cL_law 1051 = .ok (.iaload, 1) := by decide +kernel
theorem dL_law_1052 : decode cL_law 1052 = .ok (.invokevirtual 123, 3) := by decide +kernel
theorem mm_M_council : MMc yM_council cM_council 6 (some .int) 1 := ⟨hz_in 2033 (by decide +kernel) (by decide +kernel), hz_in 147 (by decide +kernel) (by decide +kernel), by decide +kernel, by decide⟩
theorem mv_M_council : MMv yM_council 12 := ⟨hz_in 2031 (by decide +kernel) (by decide +kernel), hz_in 2032 (by decide +kernel) (by decide +kernel), _, _, rfl, by decide⟩
theorem ml_L_123 : Cond.methodLink "LastWordHillLaw" 123 yM_council ∈ hz_wt := hz_in 2030 (by decide +kernel) (by decide +kernel)
theorem dL_law_1055 : decode cL_law 1055 = .ok (.if_icmp .eq 314, 3) := by decide +kernel
theorem dL_law_1058 : decode cL_law 1058 = .ok (.iconst 0, 1) := by decide +kernel
theorem dL_law_1059 : decode cL_law 1059 = .ok (.ireturn, 1) := by decide +kernel
theorem dL_law_1060 : decode cL_law 1060 = .ok (.aload_n 1, 1) := by decide +kernel
theorem dL_law_1061 : decode cL_law 1061 = .ok (.aload_n 0, 1) := by decide +kernel
theorem dL_law_1062 : decode cL_law 1062 = .ok (.iload_n 3, 1) := by decide +kernel
theorem dL_law_1063 : decode cL_law 1063 = .ok (.iconst 1, 1) := by decide +kernel
theorem dL_law_1064 : decode cL_law 1064 = .ok (.iadd, 1) := by decide +kernel
theorem dL_law_1065 : decode cL_law 1065 = .ok (.iaload, 1) := by decide +kernel
theorem dL_law_1066 : decode cL_law 1066 = .ok (.aload_n 0, 1) := by decide +kernel
theorem dL_law_1067 : decode cL_law 1067 = .ok (.iload_n 3, 1) := by decide +kernel
theorem dL_law_1068 : decode cL_law 1068 = .ok (.iconst 2, 1) := by decide +kernel
theorem dL_law_1069 : decode cL_law 1069 = .ok (.iadd, 1) := by decide +kernel
theorem dL_law_1070 : decode cL_law 1070 = .ok (.iaload, 1) := by decide +kernel
theorem dL_law_1071 : decode cL_law 1071 = .ok (.aload_n 0, 1) := by decide +kernel
theorem dL_law_1072 : decode cL_law 1072 = .ok (.iload_n 3, 1) := by decide +kernel
theorem dL_law_1073 : decode cL_law 1073 = .ok (.iconst 3, 1) := by decide +kernel
theorem dL_law_1074 : decode cL_law 1074 = .ok (.iadd, 1) := by decide +kernel
theorem dL_law_1075 : decode cL_law 1075 = .ok (.iaload, 1) := by decide +kernel
theorem dL_law_1076 : decode cL_law 1076 = .ok (.invokevirtual 124, 3) := by decide +kernel
theorem mm_H_rule : MMc yH_rule cH_rule 4 (some .boolean) 3 := ⟨hz_in 1284 (by decide +kernel) (by decide +kernel), hz_in 134 (by decide +kernel) (by decide +kernel), by decide +kernel, by decide⟩
theorem mv_H_rule : MMv yH_rule 11 := ⟨hz_in 1282 (by decide +kernel) (by decide +kernel), hz_in 1283 (by decide +kernel) (by decide +kernel), _, _, rfl, by decide⟩
theorem ml_L_124 : Cond.methodLink "LastWordHillLaw" 124 yH_rule ∈ hz_wt := hz_in 1281 (by decide +kernel) (by decide +kernel)
theorem dL_law_1079 : decode cL_law 1079 = .ok (.aload_n 2, 1) := by decide +kernel
theorem dL_law_1080 : decode cL_law 1080 = .ok (.aload_n 0, 1) := by decide +kernel
theorem dL_law_1081 : decode cL_law 1081 = .ok (.iload_n 3, 1) := by decide +kernel
theorem dL_law_1082 : decode cL_law 1082 = .ok (.iconst 1, 1) := by decide +kernel
theorem dL_law_1083 : decode cL_law 1083 = .ok (.iadd, 1) := by decide +kernel
theorem dL_law_1084 : decode cL_law 1084 = .ok (.iaload, 1) := by decide +kernel
theorem dL_law_1085 : decode cL_law 1085 = .ok (.aload_n 0, 1) := by decide +kernel
theorem dL_law_1086 : decode cL_law 1086 = .ok (.iload_n 3, 1) := by decide +kernel
theorem dL_law_1087 : decode cL_law 1087 = .ok (.iconst 2, 1) := by decide +kernel
theorem dL_law_1088 : decode cL_law 1088 = .ok (.iadd, 1) := by decide +kernel
theorem dL_law_1089 : decode cL_law 1089 = .ok (.iaload, 1) := by decide +kernel
theorem dL_law_1090 : decode cL_law 1090 = .ok (.aload_n 0, 1) := by decide +kernel
theorem dL_law_1091 : decode cL_law 1091 = .ok (.iload_n 3, 1) := by decide +kernel
theorem dL_law_1092 : decode cL_law 1092 = .ok (.iconst 3, 1) := by decide +kernel
theorem dL_law_1093 : decode cL_law 1093 = .ok (.iadd, 1) := by decide +kernel
theorem dL_law_1094 : decode cL_law 1094 = .ok (.iaload, 1) := by decide +kernel
theorem dL_law_1095 : decode cL_law 1095 = .ok (.invokevirtual 127, 3) := by decide +kernel
theorem mm_M_rule : MMc yM_rule cM_rule 4 (some .boolean) 3 := ⟨hz_in 2045 (by decide +kernel) (by decide +kernel), hz_in 147 (by decide +kernel) (by decide +kernel), by decide +kernel, by decide⟩
theorem mv_M_rule : MMv yM_rule 12 := ⟨hz_in 2043 (by decide +kernel) (by decide +kernel), hz_in 2044 (by decide +kernel) (by decide +kernel), _, _, rfl, by decide⟩
theorem ml_L_127 : Cond.methodLink "LastWordHillLaw" 127 yM_rule ∈ hz_wt := hz_in 2042 (by decide +kernel) (by decide +kernel)
theorem dL_law_1098 : decode cL_law 1098 = .ok (.if_icmp .eq 271, 3) := by decide +kernel
theorem dL_law_1101 : decode cL_law 1101 = .ok (.iconst 0, 1) := by decide +kernel
theorem dL_law_1102 : decode cL_law 1102 = .ok (.ireturn, 1) := by decide +kernel
theorem dL_law_1103 : decode cL_law 1103 = .ok (.aload_n 1, 1) := by decide +kernel
theorem dL_law_1104 : decode cL_law 1104 = .ok (.aload_n 0, 1) := by decide +kernel
theorem dL_law_1105 : decode cL_law 1105 = .ok (.iload_n 3, 1) := by decide +kernel
theorem dL_law_1106 : decode cL_law 1106 = .ok (.iconst 1, 1) := by decide +kernel
theorem dL_law_1107 : decode cL_law 1107 = .ok (.iadd, 1) := by decide +kernel
theorem dL_law_1108 : decode cL_law 1108 = .ok (.iaload, 1) := by decide +kernel
theorem dL_law_1109 : decode cL_law 1109 = .ok (.aload_n 0, 1) := by decide +kernel
theorem dL_law_1110 : decode cL_law 1110 = .ok (.iload_n 3, 1) := by decide +kernel
theorem dL_law_1111 : decode cL_law 1111 = .ok (.iconst 2, 1) := by decide +kernel
theorem dL_law_1112 : decode cL_law 1112 = .ok (.iadd, 1) := by decide +kernel
theorem dL_law_1113 : decode cL_law 1113 = .ok (.iaload, 1) := by decide +kernel
theorem dL_law_1114 : decode cL_law 1114 = .ok (.invokevirtual 128, 3) := by decide +kernel
theorem mm_H_thing : MMc yH_thing cH_thing 4 (some .int) 2 := ⟨hz_in 1288 (by decide +kernel) (by decide +kernel), hz_in 134 (by decide +kernel) (by decide +kernel), by decide +kernel, by decide⟩
theorem mv_H_thing : MMv yH_thing 11 := ⟨hz_in 1286 (by decide +kernel) (by decide +kernel), hz_in 1287 (by decide +kernel) (by decide +kernel), _, _, rfl, by decide⟩
theorem ml_L_128 : Cond.methodLink "LastWordHillLaw" 128 yH_thing ∈ hz_wt := hz_in 1285 (by decide +kernel) (by decide +kernel)
theorem dL_law_1117 : decode cL_law 1117 = .ok (.aload_n 2, 1) := by decide +kernel
theorem dL_law_1118 : decode cL_law 1118 = .ok (.aload_n 0, 1) := by decide +kernel
theorem dL_law_1119 : decode cL_law 1119 = .ok (.iload_n 3, 1) := by decide +kernel
theorem dL_law_1120 : decode cL_law 1120 = .ok (.iconst 1, 1) := by decide +kernel
theorem dL_law_1121 : decode cL_law 1121 = .ok (.iadd, 1) := by decide +kernel
theorem dL_law_1122 : decode cL_law 1122 = .ok (.iaload, 1) := by decide +kernel
theorem dL_law_1123 : decode cL_law 1123 = .ok (.aload_n 0, 1) := by decide +kernel
theorem dL_law_1124 : decode cL_law 1124 = .ok (.iload_n 3, 1) := by decide +kernel
theorem dL_law_1125 : decode cL_law 1125 = .ok (.iconst 2, 1) := by decide +kernel
theorem dL_law_1126 : decode cL_law 1126 = .ok (.iadd, 1) := by decide +kernel
theorem dL_law_1127 : decode cL_law 1127 = .ok (.iaload, 1) := by decide +kernel
theorem dL_law_1128 : decode cL_law 1128 = .ok (.invokevirtual 131, 3) := by decide +kernel
theorem mm_M_thing : MMc yM_thing cM_thing 6 (some .int) 2 := ⟨hz_in 2049 (by decide +kernel) (by decide +kernel), hz_in 147 (by decide +kernel) (by decide +kernel), by decide +kernel, by decide⟩
theorem mv_M_thing : MMv yM_thing 12 := ⟨hz_in 2047 (by decide +kernel) (by decide +kernel), hz_in 2048 (by decide +kernel) (by decide +kernel), _, _, rfl, by decide⟩
theorem ml_L_131 : Cond.methodLink "LastWordHillLaw" 131 yM_thing ∈ hz_wt := hz_in 2046 (by decide +kernel) (by decide +kernel)
theorem dL_law_1131 : decode cL_law 1131 = .ok (.if_icmp .eq 238, 3) := by decide +kernel
theorem dL_law_1134 : decode cL_law 1134 = .ok (.iconst 0, 1) := by decide +kernel
theorem dL_law_1135 : decode cL_law 1135 = .ok (.ireturn, 1) := by decide +kernel
theorem dL_law_1136 : decode cL_law 1136 = .ok (.aload_n 1, 1) := by decide +kernel
theorem dL_law_1137 : decode cL_law 1137 = .ok (.aload_n 0, 1) := by decide +kernel
theorem dL_law_1138 : decode cL_law 1138 = .ok (.iload_n 3, 1) := by decide +kernel
theorem dL_law_1139 : decode cL_law 1139 = .ok (.iconst 1, 1) := by decide +kernel
theorem dL_law_1140 : decode cL_law 1140 = .ok (.iadd, 1) := by decide +kernel
theorem dL_law_1141 : decode cL_law 1141 = .ok (.iaload, 1) := by decide +kernel
theorem dL_law_1142 : decode cL_law 1142 = .ok (.invokevirtual 132, 3) := by decide +kernel
theorem mm_H_price : MMc yH_price cH_price 2 (some .int) 1 := ⟨hz_in 1309 (by decide +kernel) (by decide +kernel), hz_in 134 (by decide +kernel) (by decide +kernel), by decide +kernel, by decide⟩
theorem mv_H_price : MMv yH_price 11 := ⟨hz_in 1307 (by decide +kernel) (by decide +kernel), hz_in 1308 (by decide +kernel) (by decide +kernel), _, _, rfl, by decide⟩
theorem ml_L_132 : Cond.methodLink "LastWordHillLaw" 132 yH_price ∈ hz_wt := hz_in 1306 (by decide +kernel) (by decide +kernel)
theorem dL_law_1145 : decode cL_law 1145 = .ok (.aload_n 2, 1) := by decide +kernel
theorem dL_law_1146 : decode cL_law 1146 = .ok (.aload_n 0, 1) := by decide +kernel
theorem dL_law_1147 : decode cL_law 1147 = .ok (.iload_n 3, 1) := by decide +kernel
theorem dL_law_1148 : decode cL_law 1148 = .ok (.iconst 1, 1) := by decide +kernel
theorem dL_law_1149 : decode cL_law 1149 = .ok (.iadd, 1) := by decide +kernel
theorem dL_law_1150 : decode cL_law 1150 = .ok (.iaload, 1) := by decide +kernel
theorem dL_law_1151 : decode cL_law 1151 = .ok (.invokevirtual 135, 3) := by decide +kernel
theorem mm_M_price : MMc yM_price cM_price 2 (some .int) 1 := ⟨hz_in 2053 (by decide +kernel) (by decide +kernel), hz_in 147 (by decide +kernel) (by decide +kernel), by decide +kernel, by decide⟩
theorem mv_M_price : MMv yM_price 12 := ⟨hz_in 2051 (by decide +kernel) (by decide +kernel), hz_in 2052 (by decide +kernel) (by decide +kernel), _, _, rfl, by decide⟩
theorem ml_L_135 : Cond.methodLink "LastWordHillLaw" 135 yM_price ∈ hz_wt := hz_in 2050 (by decide +kernel) (by decide +kernel)
theorem dL_law_1154 : decode cL_law 1154 = .ok (.if_icmp .eq 215, 3) := by decide +kernel
theorem dL_law_1157 : decode cL_law 1157 = .ok (.iconst 0, 1) := by decide +kernel
theorem dL_law_1158 : decode cL_law 1158 = .ok (.ireturn, 1) := by decide +kernel
theorem dL_law_1159 : decode cL_law 1159 = .ok (.aload_n 1, 1) := by decide +kernel
theorem dL_law_1160 : decode cL_law 1160 = .ok (.aload_n 0, 1) := by decide +kernel
theorem dL_law_1161 : decode cL_law 1161 = .ok (.iload_n 3, 1) := by decide +kernel
theorem dL_law_1162 : decode cL_law 1162 = .ok (.iconst 1, 1) := by decide +kernel
theorem dL_law_1163 : decode cL_law 1163 = .ok (.iadd, 1) := by decide +kernel
theorem dL_law_1164 : decode cL_law 1164 = .ok (.iaload, 1) := by decide +kernel
theorem dL_law_1165 : decode cL_law 1165 = .ok (.aload_n 0, 1) := by decide +kernel
theorem dL_law_1166 : decode cL_law 1166 = .ok (.iload_n 3, 1) := by decide +kernel
theorem dL_law_1167 : decode cL_law 1167 = .ok (.iconst 2, 1) := by decide +kernel
theorem dL_law_1168 : decode cL_law 1168 = .ok (.iadd, 1) := by decide +kernel
theorem dL_law_1169 : decode cL_law 1169 = .ok (.iaload, 1) := by decide +kernel
theorem dL_law_1170 : decode cL_law 1170 = .ok (.invokevirtual 136, 3) := by decide +kernel
theorem mm_H_prices : MMc yH_prices cH_prices 3 (some .int) 2 := ⟨hz_in 1313 (by decide +kernel) (by decide +kernel), hz_in 134 (by decide +kernel) (by decide +kernel), by decide +kernel, by decide⟩
theorem mv_H_prices : MMv yH_prices 11 := ⟨hz_in 1311 (by decide +kernel) (by decide +kernel), hz_in 1312 (by decide +kernel) (by decide +kernel), _, _, rfl, by decide⟩
theorem ml_L_136 : Cond.methodLink "LastWordHillLaw" 136 yH_prices ∈ hz_wt := hz_in 1310 (by decide +kernel) (by decide +kernel)
theorem dL_law_1173 : decode cL_law 1173 = .ok (.aload_n 2, 1) := by decide +kernel
theorem dL_law_1174 : decode cL_law 1174 = .ok (.aload_n 0, 1) := by decide +kernel
theorem dL_law_1175 : decode cL_law 1175 = .ok (.iload_n 3, 1) := by decide +kernel
theorem dL_law_1176 : decode cL_law 1176 = .ok (.iconst 1, 1) := by decide +kernel
theorem dL_law_1177 : decode cL_law 1177 = .ok (.iadd, 1) := by decide +kernel
theorem dL_law_1178 : decode cL_law 1178 = .ok (.iaload, 1) := by decide +kernel
theorem dL_law_1179 : decode cL_law 1179 = .ok (.aload_n 0, 1) := by decide +kernel
theorem dL_law_1180 : decode cL_law 1180 = .ok (.iload_n 3, 1) := by decide +kernel
theorem dL_law_1181 : decode cL_law 1181 = .ok (.iconst 2, 1) := by decide +kernel
theorem dL_law_1182 : decode cL_law 1182 = .ok (.iadd, 1) := by decide +kernel
theorem dL_law_1183 : decode cL_law 1183 = .ok (.iaload, 1) := by decide +kernel
theorem dL_law_1184 : decode cL_law 1184 = .ok (.invokevirtual 139, 3) := by decide +kernel
theorem mm_M_prices : MMc yM_prices cM_prices 5 (some .int) 2 := ⟨hz_in 2057 (by decide +kernel) (by decide +kernel), hz_in 147 (by decide +kernel) (by decide +kernel), by decide +kernel, by decide⟩
theorem mv_M_prices : MMv yM_prices 12 := ⟨hz_in 2055 (by decide +kernel) (by decide +kernel), hz_in 2056 (by decide +kernel) (by decide +kernel), _, _, rfl, by decide⟩
theorem ml_L_139 : Cond.methodLink "LastWordHillLaw" 139 yM_prices ∈ hz_wt := hz_in 2054 (by decide +kernel) (by decide +kernel)
theorem dL_law_1187 : decode cL_law 1187 = .ok (.if_icmp .eq 182, 3) := by decide +kernel
theorem dL_law_1190 : decode cL_law 1190 = .ok (.iconst 0, 1) := by decide +kernel
theorem dL_law_1191 : decode cL_law 1191 = .ok (.ireturn, 1) := by decide +kernel
theorem dL_law_1192 : decode cL_law 1192 = .ok (.aload_n 1, 1) := by decide +kernel
theorem dL_law_1193 : decode cL_law 1193 = .ok (.aload_n 0, 1) := by decide +kernel
theorem dL_law_1194 : decode cL_law 1194 = .ok (.iload_n 3, 1) := by decide +kernel
theorem dL_law_1195 : decode cL_law 1195 = .ok (.iconst 1, 1) := by decide +kernel
theorem dL_law_1196 : decode cL_law 1196 = .ok (.iadd, 1) := by decide +kernel
theorem dL_law_1197 : decode cL_law 1197 = .ok (.iaload, 1) := by decide +kernel
theorem dL_law_1198 : decode cL_law 1198 = .ok (.aload_n 0, 1) := by decide +kernel
theorem dL_law_1199 : decode cL_law 1199 = .ok (.iload_n 3, 1) := by decide +kernel
theorem dL_law_1200 : decode cL_law 1200 = .ok (.iconst 2, 1) := by decide +kernel
theorem dL_law_1201 : decode cL_law 1201 = .ok (.iadd, 1) := by decide +kernel
theorem dL_law_1202 : decode cL_law 1202 = .ok (.iaload, 1) := by decide +kernel
theorem dL_law_1203 : decode cL_law 1203 = .ok (.invokevirtual 140, 3) := by decide +kernel
theorem mm_H_bell : MMc yH_bell cH_bell 3 (some .int) 2 := ⟨hz_in 1325 (by decide +kernel) (by decide +kernel), hz_in 134 (by decide +kernel) (by decide +kernel), by decide +kernel, by decide⟩
theorem mv_H_bell : MMv yH_bell 11 := ⟨hz_in 1323 (by decide +kernel) (by decide +kernel), hz_in 1324 (by decide +kernel) (by decide +kernel), _, _, rfl, by decide⟩
theorem ml_L_140 : Cond.methodLink "LastWordHillLaw" 140 yH_bell ∈ hz_wt := hz_in 1322 (by decide +kernel) (by decide +kernel)
theorem dL_law_1206 : decode cL_law 1206 = .ok (.aload_n 2, 1) := by decide +kernel
theorem dL_law_1207 : decode cL_law 1207 = .ok (.aload_n 0, 1) := by decide +kernel
theorem dL_law_1208 : decode cL_law 1208 = .ok (.iload_n 3, 1) := by decide +kernel
theorem dL_law_1209 : decode cL_law 1209 = .ok (.iconst 1, 1) := by decide +kernel
theorem dL_law_1210 : decode cL_law 1210 = .ok (.iadd, 1) := by decide +kernel
theorem dL_law_1211 : decode cL_law 1211 = .ok (.iaload, 1) := by decide +kernel
theorem dL_law_1212 : decode cL_law 1212 = .ok (.aload_n 0, 1) := by decide +kernel
theorem dL_law_1213 : decode cL_law 1213 = .ok (.iload_n 3, 1) := by decide +kernel
theorem dL_law_1214 : decode cL_law 1214 = .ok (.iconst 2, 1) := by decide +kernel
theorem dL_law_1215 : decode cL_law 1215 = .ok (.iadd, 1) := by decide +kernel
theorem dL_law_1216 : decode cL_law 1216 = .ok (.iaload, 1) := by decide +kernel
theorem dL_law_1217 : decode cL_law 1217 = .ok (.invokevirtual 143, 3) := by decide +kernel
theorem mm_M_bell : MMc yM_bell cM_bell 5 (some .int) 2 := ⟨hz_in 2065 (by decide +kernel) (by decide +kernel), hz_in 147 (by decide +kernel) (by decide +kernel), by decide +kernel, by decide⟩
theorem mv_M_bell : MMv yM_bell 12 := ⟨hz_in 2063 (by decide +kernel) (by decide +kernel), hz_in 2064 (by decide +kernel) (by decide +kernel), _, _, rfl, by decide⟩
theorem ml_L_143 : Cond.methodLink "LastWordHillLaw" 143 yM_bell ∈ hz_wt := hz_in 2062 (by decide +kernel) (by decide +kernel)
theorem dL_law_1220 : decode cL_law 1220 = .ok (.if_icmp .eq 149, 3) := by decide +kernel
theorem dL_law_1223 : decode cL_law 1223 = .ok (.iconst 0, 1) := by decide +kernel
theorem dL_law_1224 : decode cL_law 1224 = .ok (.ireturn, 1) := by decide +kernel
theorem dL_law_1225 : decode cL_law 1225 = .ok (.aload_n 1, 1) := by decide +kernel
theorem dL_law_1226 : decode cL_law 1226 = .ok (.aload_n 0, 1) := by decide +kernel
theorem dL_law_1227 : decode cL_law 1227 = .ok (.iload_n 3, 1) := by decide +kernel
theorem dL_law_1228 : decode cL_law 1228 = .ok (.iconst 1, 1) := by decide +kernel
theorem dL_law_1229 : decode cL_law 1229 = .ok (.iadd, 1) := by decide +kernel
theorem dL_law_1230 : decode cL_law 1230 = .ok (.iaload, 1) := by decide +kernel
theorem dL_law_1231 : decode cL_law 1231 = .ok (.aload_n 0, 1) := by decide +kernel
theorem dL_law_1232 : decode cL_law 1232 = .ok (.iload_n 3, 1) := by decide +kernel
theorem dL_law_1233 : decode cL_law 1233 = .ok (.iconst 2, 1) := by decide +kernel
theorem dL_law_1234 : decode cL_law 1234 = .ok (.iadd, 1) := by decide +kernel
theorem dL_law_1235 : decode cL_law 1235 = .ok (.iaload, 1) := by decide +kernel
theorem dL_law_1236 : decode cL_law 1236 = .ok (.invokevirtual 144, 3) := by decide +kernel
theorem mm_H_worth : MMc yH_worth cH_worth 3 (some .boolean) 2 := ⟨hz_in 1335 (by decide +kernel) (by decide +kernel), hz_in 134 (by decide +kernel) (by decide +kernel), by decide +kernel, by decide⟩
theorem mv_H_worth : MMv yH_worth 11 := ⟨hz_in 1333 (by decide +kernel) (by decide +kernel), hz_in 1334 (by decide +kernel) (by decide +kernel), _, _, rfl, by decide⟩
theorem ml_L_144 : Cond.methodLink "LastWordHillLaw" 144 yH_worth ∈ hz_wt := hz_in 1332 (by decide +kernel) (by decide +kernel)
theorem dL_law_1239 : decode cL_law 1239 = .ok (.aload_n 2, 1) := by decide +kernel
theorem dL_law_1240 : decode cL_law 1240 = .ok (.aload_n 0, 1) := by decide +kernel
theorem dL_law_1241 : decode cL_law 1241 = .ok (.iload_n 3, 1) := by decide +kernel
theorem dL_law_1242 : decode cL_law 1242 = .ok (.iconst 1, 1) := by decide +kernel
theorem dL_law_1243 : decode cL_law 1243 = .ok (.iadd, 1) := by decide +kernel
theorem dL_law_1244 : decode cL_law 1244 = .ok (.iaload, 1) := by decide +kernel
theorem dL_law_1245 : decode cL_law 1245 = .ok (.aload_n 0, 1) := by decide +kernel
theorem dL_law_1246 : decode cL_law 1246 = .ok (.iload_n 3, 1) := by decide +kernel
theorem dL_law_1247 : decode cL_law 1247 = .ok (.iconst 2, 1) := by decide +kernel
theorem dL_law_1248 : decode cL_law 1248 = .ok (.iadd, 1) := by decide +kernel
theorem dL_law_1249 : decode cL_law 1249 = .ok (.iaload, 1) := by decide +kernel
theorem dL_law_1250 : decode cL_law 1250 = .ok (.invokevirtual 148, 3) := by decide +kernel
theorem mm_M_worth : MMc yM_worth cM_worth 3 (some .boolean) 2 := ⟨hz_in 2069 (by decide +kernel) (by decide +kernel), hz_in 147 (by decide +kernel) (by decide +kernel), by decide +kernel, by decide⟩
theorem mv_M_worth : MMv yM_worth 12 := ⟨hz_in 2067 (by decide +kernel) (by decide +kernel), hz_in 2068 (by decide +kernel) (by decide +kernel), _, _, rfl, by decide⟩
theorem ml_L_148 : Cond.methodLink "LastWordHillLaw" 148 yM_worth ∈ hz_wt := hz_in 2066 (by decide +kernel) (by decide +kernel)
theorem dL_law_1253 : decode cL_law 1253 = .ok (.if_icmp .eq 116, 3) := by decide +kernel
theorem dL_law_1256 : decode cL_law 1256 = .ok (.iconst 0, 1) := by decide +kernel
theorem dL_law_1257 : decode cL_law 1257 = .ok (.ireturn, 1) := by decide +kernel
theorem dL_law_1258 : decode cL_law 1258 = .ok (.aload_n 1, 1) := by decide +kernel
theorem dL_law_1259 : decode cL_law 1259 = .ok (.invokevirtual 149, 3) := by decide +kernel
theorem mm_H_worths : MMc yH_worths cH_worths 1 (some .int) 0 := ⟨hz_in 1339 (by decide +kernel) (by decide +kernel), hz_in 134 (by decide +kernel) (by decide +kernel), by decide +kernel, by decide⟩
theorem mv_H_worths : MMv yH_worths 11 := ⟨hz_in 1337 (by decide +kernel) (by decide +kernel), hz_in 1338 (by decide +kernel) (by decide +kernel), _, _, rfl, by decide⟩
theorem ml_L_149 : Cond.methodLink "LastWordHillLaw" 149 yH_worths ∈ hz_wt := hz_in 1336 (by decide +kernel) (by decide +kernel)
theorem dL_law_1262 : decode cL_law 1262 = .ok (.aload_n 2, 1) := by decide +kernel
theorem dL_law_1263 : decode cL_law 1263 = .ok (.invokevirtual 153, 3) := by decide +kernel
theorem mm_M_worths : MMc yM_worths cM_worths 4 (some .int) 0 := ⟨hz_in 2073 (by decide +kernel) (by decide +kernel), hz_in 147 (by decide +kernel) (by decide +kernel), by decide +kernel, by decide⟩
theorem mv_M_worths : MMv yM_worths 12 := ⟨hz_in 2071 (by decide +kernel) (by decide +kernel), hz_in 2072 (by decide +kernel) (by decide +kernel), _, _, rfl, by decide⟩
theorem ml_L_153 : Cond.methodLink "LastWordHillLaw" 153 yM_worths ∈ hz_wt := hz_in 2070 (by decide +kernel) (by decide +kernel)
theorem dL_law_1266 : decode cL_law 1266 = .ok (.if_icmp .eq 103, 3) := by decide +kernel
theorem dL_law_1269 : decode cL_law 1269 = .ok (.iconst 0, 1) := by decide +kernel
theorem dL_law_1270 : decode cL_law 1270 = .ok (.ireturn, 1) := by decide +kernel
theorem dL_law_1271 : decode cL_law 1271 = .ok (.aload_n 1, 1) := by decide +kernel
theorem dL_law_1272 : decode cL_law 1272 = .ok (.aload_n 0, 1) := by decide +kernel
theorem dL_law_1273 : decode cL_law 1273 = .ok (.iload_n 3, 1) := by decide +kernel
theorem dL_law_1274 : decode cL_law 1274 = .ok (.iconst 1, 1) := by decide +kernel
theorem dL_law_1275 : decode cL_law 1275 = .ok (.iadd, 1) := by decide +kernel
theorem dL_law_1276 : decode cL_law 1276 = .ok (.iaload, 1) := by decide +kernel
theorem dL_law_1277 : decode cL_law 1277 = .ok (.invokevirtual 154, 3) := by decide +kernel
theorem mm_H_game : MMc yH_game cH_game 2 (some .int) 1 := ⟨hz_in 1349 (by decide +kernel) (by decide +kernel), hz_in 134 (by decide +kernel) (by decide +kernel), by decide +kernel, by decide⟩
theorem mv_H_game : MMv yH_game 11 := ⟨hz_in 1347 (by decide +kernel) (by decide +kernel), hz_in 1348 (by decide +kernel) (by decide +kernel), _, _, rfl, by decide⟩
theorem ml_L_154 : Cond.methodLink "LastWordHillLaw" 154 yH_game ∈ hz_wt := hz_in 1346 (by decide +kernel) (by decide +kernel)
theorem dL_law_1280 : decode cL_law 1280 = .ok (.aload_n 2, 1) := by decide +kernel
theorem dL_law_1281 : decode cL_law 1281 = .ok (.aload_n 0, 1) := by decide +kernel
theorem dL_law_1282 : decode cL_law 1282 = .ok (.iload_n 3, 1) := by decide +kernel
theorem dL_law_1283 : decode cL_law 1283 = .ok (.iconst 1, 1) := by decide +kernel
theorem dL_law_1284 : decode cL_law 1284 = .ok (.iadd, 1) := by decide +kernel
theorem dL_law_1285 : decode cL_law 1285 = .ok (.iaload, 1) := by decide +kernel
theorem dL_law_1286 : decode cL_law 1286 = .ok (.invokevirtual 157, 3) := by decide +kernel
theorem mm_M_game : MMc yM_game cM_game 7 (some .int) 1 := ⟨hz_in 2081 (by decide +kernel) (by decide +kernel), hz_in 147 (by decide +kernel) (by decide +kernel), by decide +kernel, by decide⟩
theorem mv_M_game : MMv yM_game 12 := ⟨hz_in 2079 (by decide +kernel) (by decide +kernel), hz_in 2080 (by decide +kernel) (by decide +kernel), _, _, rfl, by decide⟩
theorem ml_L_157 : Cond.methodLink "LastWordHillLaw" 157 yM_game ∈ hz_wt := hz_in 2078 (by decide +kernel) (by decide +kernel)
theorem dL_law_1289 : decode cL_law 1289 = .ok (.if_icmp .eq 80, 3) := by decide +kernel
theorem dL_law_1292 : decode cL_law 1292 = .ok (.iconst 0, 1) := by decide +kernel
theorem dL_law_1293 : decode cL_law 1293 = .ok (.ireturn, 1) := by decide +kernel
theorem dL_law_1294 : decode cL_law 1294 = .ok (.aload_n 1, 1) := by decide +kernel
theorem dL_law_1295 : decode cL_law 1295 = .ok (.invokevirtual 158, 3) := by decide +kernel
theorem mm_H_undo : MMc yH_undo cH_undo 1 (some .boolean) 0 := ⟨hz_in 1369 (by decide +kernel) (by decide +kernel), hz_in 134 (by decide +kernel) (by decide +kernel), by decide +kernel, by decide⟩
theorem mv_H_undo : MMv yH_undo 11 := ⟨hz_in 1367 (by decide +kernel) (by decide +kernel), hz_in 1368 (by decide +kernel) (by decide +kernel), _, _, rfl, by decide⟩
theorem ml_L_158 : Cond.methodLink "LastWordHillLaw" 158 yH_undo ∈ hz_wt := hz_in 1366 (by decide +kernel) (by decide +kernel)
theorem dL_law_1298 : decode cL_law 1298 = .ok (.aload_n 2, 1) := by decide +kernel
theorem dL_law_1299 : decode cL_law 1299 = .ok (.invokevirtual 162, 3) := by decide +kernel
theorem mm_M_undo : MMc yM_undo cM_undo 2 (some .boolean) 0 := ⟨hz_in 1626 (by decide +kernel) (by decide +kernel), hz_in 147 (by decide +kernel) (by decide +kernel), by decide +kernel, by decide⟩
theorem mv_M_undo : MMv yM_undo 12 := ⟨hz_in 1624 (by decide +kernel) (by decide +kernel), hz_in 1625 (by decide +kernel) (by decide +kernel), _, _, rfl, by decide⟩
theorem ml_L_162 : Cond.methodLink "LastWordHillLaw" 162 yM_undo ∈ hz_wt := hz_in 1623 (by decide +kernel) (by decide +kernel)
theorem dL_law_1302 : decode cL_law 1302 = .ok (.if_icmp .eq 67, 3) := by decide +kernel
theorem dL_law_1305 : decode cL_law 1305 = .ok (.iconst 0, 1) := by decide +kernel
theorem dL_law_1306 : decode cL_law 1306 = .ok (.ireturn, 1) := by decide +kernel
theorem dL_law_1307 : decode cL_law 1307 = .ok (.aload_n 1, 1) := by decide +kernel
theorem dL_law_1308 : decode cL_law 1308 = .ok (.aload_n 0, 1) := by decide +kernel
theorem dL_law_1309 : decode cL_law 1309 = .ok (.iload_n 3, 1) := by decide +kernel
theorem dL_law_1310 : decode cL_law 1310 = .ok (.iconst 1, 1) := by decide +kernel
theorem dL_law_1311 : decode cL_law 1311 = .ok (.iadd, 1) := by decide +kernel
theorem dL_law_1312 : decode cL_law 1312 = .ok (.iaload, 1) := by decide +kernel
theorem dL_law_1313 : decode cL_law 1313 = .ok (.ifCond .eq 7, 3) := by decide +kernel
theorem dL_law_1321 : decode cL_law 1321 = .ok (.invokevirtual 163, 3) := by decide +kernel
theorem mm_H_image : MMc yH_image cH_image 2 (some .boolean) 1 := ⟨hz_in 1377 (by decide +kernel) (by decide +kernel), hz_in 134 (by decide +kernel) (by decide +kernel), by decide +kernel, by decide⟩
theorem mv_H_image : MMv yH_image 11 := ⟨hz_in 1375 (by decide +kernel) (by decide +kernel), hz_in 1376 (by decide +kernel) (by decide +kernel), _, _, rfl, by decide⟩
theorem ml_L_163 : Cond.methodLink "LastWordHillLaw" 163 yH_image ∈ hz_wt := hz_in 1374 (by decide +kernel) (by decide +kernel)
theorem dL_law_1324 : decode cL_law 1324 = .ok (.aload_n 2, 1) := by decide +kernel
theorem dL_law_1325 : decode cL_law 1325 = .ok (.aload_n 0, 1) := by decide +kernel
theorem dL_law_1326 : decode cL_law 1326 = .ok (.iload_n 3, 1) := by decide +kernel
theorem dL_law_1327 : decode cL_law 1327 = .ok (.iconst 1, 1) := by decide +kernel
theorem dL_law_1328 : decode cL_law 1328 = .ok (.iadd, 1) := by decide +kernel
theorem dL_law_1329 : decode cL_law 1329 = .ok (.iaload, 1) := by decide +kernel
theorem dL_law_1330 : decode cL_law 1330 = .ok (.ifCond .eq 7, 3) := by decide +kernel
theorem dL_law_1338 : decode cL_law 1338 = .ok (.invokevirtual 167, 3) := by decide +kernel
theorem mm_M_image : MMc yM_image cM_image 3 (some .boolean) 1 := ⟨hz_in 2089 (by decide +kernel) (by decide +kernel), hz_in 147 (by decide +kernel) (by decide +kernel), by decide +kernel, by decide⟩
theorem mv_M_image : MMv yM_image 12 := ⟨hz_in 2087 (by decide +kernel) (by decide +kernel), hz_in 2088 (by decide +kernel) (by decide +kernel), _, _, rfl, by decide⟩
theorem ml_L_167 : Cond.methodLink "LastWordHillLaw" 167 yM_image ∈ hz_wt := hz_in 2086 (by decide +kernel) (by decide +kernel)
theorem dL_law_1341 : decode cL_law 1341 = .ok (.if_icmp .eq 28, 3) := by decide +kernel
theorem dL_law_1344 : decode cL_law 1344 = .ok (.iconst 0, 1) := by decide +kernel
theorem dL_law_1345 : decode cL_law 1345 = .ok (.ireturn, 1) := by decide +kernel
theorem dL_law_1337 : decode cL_law 1337 = .ok (.iconst 0, 1) := by decide +kernel
theorem dL_law_1333 : decode cL_law 1333 = .ok (.iconst 1, 1) := by decide +kernel
theorem dL_law_1334 : decode cL_law 1334 = .ok (.goto 4, 3) := by decide +kernel
theorem dL_law_1320 : decode cL_law 1320 = .ok (.iconst 0, 1) := by decide +kernel
theorem dL_law_1316 : decode cL_law 1316 = .ok (.iconst 1, 1) := by decide +kernel
theorem dL_law_1317 : decode cL_law 1317 = .ok (.goto 4, 3) := by decide +kernel
theorem dL_law_1346 : decode cL_law 1346 = .ok (.aload_n 1, 1) := by decide +kernel
theorem dL_law_1347 : decode cL_law 1347 = .ok (.aload_n 0, 1) := by decide +kernel
theorem dL_law_1348 : decode cL_law 1348 = .ok (.iload_n 3, 1) := by decide +kernel
theorem dL_law_1349 : decode cL_law 1349 = .ok (.iconst 1, 1) := by decide +kernel
theorem dL_law_1350 : decode cL_law 1350 = .ok (.iadd, 1) := by decide +kernel
theorem dL_law_1351 : decode cL_law 1351 = .ok (.iaload, 1) := by decide +kernel
theorem dL_law_1352 : decode cL_law 1352 = .ok (.invokevirtual 168, 3) := by decide +kernel
theorem mm_H_look : MMc yH_look cH_look 2 (some .int) 1 := ⟨hz_in 1401 (by decide +kernel) (by decide +kernel), hz_in 134 (by decide +kernel) (by decide +kernel), by decide +kernel, by decide⟩
theorem mv_H_look : MMv yH_look 11 := ⟨hz_in 1399 (by decide +kernel) (by decide +kernel), hz_in 1400 (by decide +kernel) (by decide +kernel), _, _, rfl, by decide⟩
theorem ml_L_168 : Cond.methodLink "LastWordHillLaw" 168 yH_look ∈ hz_wt := hz_in 1398 (by decide +kernel) (by decide +kernel)
theorem dL_law_1355 : decode cL_law 1355 = .ok (.aload_n 2, 1) := by decide +kernel
theorem dL_law_1356 : decode cL_law 1356 = .ok (.aload_n 0, 1) := by decide +kernel
theorem dL_law_1357 : decode cL_law 1357 = .ok (.iload_n 3, 1) := by decide +kernel
theorem dL_law_1358 : decode cL_law 1358 = .ok (.iconst 1, 1) := by decide +kernel
theorem dL_law_1359 : decode cL_law 1359 = .ok (.iadd, 1) := by decide +kernel
theorem dL_law_1360 : decode cL_law 1360 = .ok (.iaload, 1) := by decide +kernel
theorem dL_law_1361 : decode cL_law 1361 = .ok (.invokevirtual 171, 3) := by decide +kernel
theorem mm_M_look : MMc yM_look cM_look 2 (some .int) 1 := ⟨hz_in 2109 (by decide +kernel) (by decide +kernel), hz_in 147 (by decide +kernel) (by decide +kernel), by decide +kernel, by decide⟩
theorem mv_M_look : MMv yM_look 12 := ⟨hz_in 2107 (by decide +kernel) (by decide +kernel), hz_in 2108 (by decide +kernel) (by decide +kernel), _, _, rfl, by decide⟩
theorem ml_L_171 : Cond.methodLink "LastWordHillLaw" 171 yM_look ∈ hz_wt := hz_in 2106 (by decide +kernel) (by decide +kernel)
theorem dL_law_1364 : decode cL_law 1364 = .ok (.if_icmp .eq 5, 3) := by decide +kernel
theorem dL_law_1367 : decode cL_law 1367 = .ok (.iconst 0, 1) := by decide +kernel
theorem dL_law_1368 : decode cL_law 1368 = .ok (.ireturn, 1) := by decide +kernel
def fL_0 (j1369 : Sg → Option (Int32 × Sg)) (xs : Nat → Int32) (n : Nat) (u18 : Int32) (s0 : Sg) : Option (Int32 × Sg) := gd (u18 + 1) n (bi (fH_state (xs (ix (u18 + 1))) s0) fun r2 s1 => gd (u18 + 1) n (bi (fM_state (xs (ix (u18 + 1))) s1) fun r4 s3 => if r2 = r4 then (j1369 s3) else (some (0, s3))))
set_option maxHeartbeats 4000000 in
set_option maxRecDepth 100000 in
theorem okL_0 {C : Cx} {b n : Nat} {xs : Nat → Int32} (X : Fx C cL_law 4 R_law ret 16) (E : LE C b) (Y : LX C b n xs) (j1369 : Sg → Option (Int32 × Sg)) (u18 : Int32) (hj1369 : ∀ s : Sg, GF C evI 1369 [some (.ref b), some (.ref (C.w.ad 0)), some (.ref (C.w.ad 102)), some (.int u18)] [] s (j1369 s)) (s0 : Sg) : GF C evI 196 [some (.ref b), some (.ref (C.w.ad 0)), some (.ref (C.w.ad 102)), some (.int u18)] [] s0 (fL_0 j1369 xs n u18 s0) := by
  unfold fL_0
  refine g_aload_n X dL_law_196 rfl ?_
  refine g_aload_n X dL_law_197 rfl ?_
  refine g_iload_n X dL_law_198 rfl ?_
  refine g_iconst X 1 dL_law_199 (by decide) ?_
  refine g_iadd X dL_law_200 ?_
  refine g_sld X Y dL_law_201 ?_
  refine g_virtI X [.int (xs (ix (u18 + 1)))] [] k_0 mm_H_state mv_H_state ml_L_13 (okH_state (xs (ix (u18 + 1))) s0 C.l C.w) rfl (by decide) rfl (Nat.le_of_ble_eq_true rfl) dL_law_202 (fun r2 s1 => ?_)
  refine g_aload_n X dL_law_205 rfl ?_
  refine g_aload_n X dL_law_206 rfl ?_
  refine g_iload_n X dL_law_207 rfl ?_
  refine g_iconst X 1 dL_law_208 (by decide) ?_
  refine g_iadd X dL_law_209 ?_
  refine g_sld X Y dL_law_210 ?_
  refine g_virtI X [.int (xs (ix (u18 + 1)))] [.int r2] k_102 mm_M_state mv_M_state ml_L_17 (okM_state (xs (ix (u18 + 1))) s1 C.l C.w) rfl (by decide) rfl (Nat.le_of_ble_eq_true rfl) dL_law_211 (fun r4 s3 => ?_)
  refine g_ceq X (tgt := 1369) dL_law_214 (by decide) ?_ ?_
  · exact gf_sub (hj1369 s3) (by simp [lsub])
  · refine g_iconst X 0 dL_law_217 (by decide) ?_
    exact g_lret X E dL_law_218
def fL_1 (j1369 : Sg → Option (Int32 × Sg)) (xs : Nat → Int32) (n : Nat) (u18 : Int32) (s0 : Sg) : Option (Int32 × Sg) := gd (u18 + 1) n (gd (u18 + 2) n (gd (u18 + 3) n (bi (fH_person (xs (ix (u18 + 1))) (xs (ix (u18 + 2))) (xs (ix (u18 + 3))) s0) fun r2 s1 => gd (u18 + 1) n (gd (u18 + 2) n (gd (u18 + 3) n (bi (fM_person (xs (ix (u18 + 1))) (xs (ix (u18 + 2))) (xs (ix (u18 + 3))) s1) fun r4 s3 => if r2 = r4 then (j1369 s3) else (some (0, s3))))))))
set_option maxHeartbeats 4000000 in
set_option maxRecDepth 100000 in
theorem okL_1 {C : Cx} {b n : Nat} {xs : Nat → Int32} (X : Fx C cL_law 4 R_law ret 16) (E : LE C b) (Y : LX C b n xs) (j1369 : Sg → Option (Int32 × Sg)) (u18 : Int32) (hj1369 : ∀ s : Sg, GF C evI 1369 [some (.ref b), some (.ref (C.w.ad 0)), some (.ref (C.w.ad 102)), some (.int u18)] [] s (j1369 s)) (s0 : Sg) : GF C evI 219 [some (.ref b), some (.ref (C.w.ad 0)), some (.ref (C.w.ad 102)), some (.int u18)] [] s0 (fL_1 j1369 xs n u18 s0) := by
  unfold fL_1
  refine g_aload_n X dL_law_219 rfl ?_
  refine g_aload_n X dL_law_220 rfl ?_
  refine g_iload_n X dL_law_221 rfl ?_
  refine g_iconst X 1 dL_law_222 (by decide) ?_
  refine g_iadd X dL_law_223 ?_
  refine g_sld X Y dL_law_224 ?_
  refine g_aload_n X dL_law_225 rfl ?_
  refine g_iload_n X dL_law_226 rfl ?_
  refine g_iconst X 2 dL_law_227 (by decide) ?_
  refine g_iadd X dL_law_228 ?_
  refine g_sld X Y dL_law_229 ?_
  refine g_aload_n X dL_law_230 rfl ?_
  refine g_iload_n X dL_law_231 rfl ?_
  refine g_iconst X 3 dL_law_232 (by decide) ?_
  refine g_iadd X dL_law_233 ?_
  refine g_sld X Y dL_law_234 ?_
  refine g_virtI X [.int (xs (ix (u18 + 1))), .int (xs (ix (u18 + 2))), .int (xs (ix (u18 + 3)))] [] k_0 mm_H_person mv_H_person ml_L_18 (okH_person (xs (ix (u18 + 1))) (xs (ix (u18 + 2))) (xs (ix (u18 + 3))) s0 C.l C.w) rfl (by decide) rfl (Nat.le_of_ble_eq_true rfl) dL_law_235 (fun r2 s1 => ?_)
  refine g_aload_n X dL_law_238 rfl ?_
  refine g_aload_n X dL_law_239 rfl ?_
  refine g_iload_n X dL_law_240 rfl ?_
  refine g_iconst X 1 dL_law_241 (by decide) ?_
  refine g_iadd X dL_law_242 ?_
  refine g_sld X Y dL_law_243 ?_
  refine g_aload_n X dL_law_244 rfl ?_
  refine g_iload_n X dL_law_245 rfl ?_
  refine g_iconst X 2 dL_law_246 (by decide) ?_
  refine g_iadd X dL_law_247 ?_
  refine g_sld X Y dL_law_248 ?_
  refine g_aload_n X dL_law_249 rfl ?_
  refine g_iload_n X dL_law_250 rfl ?_
  refine g_iconst X 3 dL_law_251 (by decide) ?_
  refine g_iadd X dL_law_252 ?_
  refine g_sld X Y dL_law_253 ?_
  refine g_virtI X [.int (xs (ix (u18 + 1))), .int (xs (ix (u18 + 2))), .int (xs (ix (u18 + 3)))] [.int r2] k_102 mm_M_person mv_M_person ml_L_22 (okM_person (xs (ix (u18 + 1))) (xs (ix (u18 + 2))) (xs (ix (u18 + 3))) s1 C.l C.w) rfl (by decide) rfl (Nat.le_of_ble_eq_true rfl) dL_law_254 (fun r4 s3 => ?_)
  refine g_ceq X (tgt := 1369) dL_law_257 (by decide) ?_ ?_
  · exact gf_sub (hj1369 s3) (by simp [lsub])
  · refine g_iconst X 0 dL_law_260 (by decide) ?_
    exact g_lret X E dL_law_261
def fL_2 (j1369 : Sg → Option (Int32 × Sg)) (xs : Nat → Int32) (n : Nat) (u18 : Int32) (s0 : Sg) : Option (Int32 × Sg) := gd (u18 + 1) n (gd (u18 + 2) n (gd (u18 + 3) n (bi (fH_set (xs (ix (u18 + 1))) (xs (ix (u18 + 2))) (xs (ix (u18 + 3))) s0) fun r2 s1 => gd (u18 + 1) n (gd (u18 + 2) n (gd (u18 + 3) n (bi (fM_set (xs (ix (u18 + 1))) (xs (ix (u18 + 2))) (xs (ix (u18 + 3))) s1) fun r4 s3 => if r2 = r4 then (j1369 s3) else (some (0, s3))))))))
set_option maxHeartbeats 4000000 in
set_option maxRecDepth 100000 in
theorem okL_2 {C : Cx} {b n : Nat} {xs : Nat → Int32} (X : Fx C cL_law 4 R_law ret 16) (E : LE C b) (Y : LX C b n xs) (j1369 : Sg → Option (Int32 × Sg)) (u18 : Int32) (hj1369 : ∀ s : Sg, GF C evI 1369 [some (.ref b), some (.ref (C.w.ad 0)), some (.ref (C.w.ad 102)), some (.int u18)] [] s (j1369 s)) (s0 : Sg) : GF C evI 262 [some (.ref b), some (.ref (C.w.ad 0)), some (.ref (C.w.ad 102)), some (.int u18)] [] s0 (fL_2 j1369 xs n u18 s0) := by
  unfold fL_2
  refine g_aload_n X dL_law_262 rfl ?_
  refine g_aload_n X dL_law_263 rfl ?_
  refine g_iload_n X dL_law_264 rfl ?_
  refine g_iconst X 1 dL_law_265 (by decide) ?_
  refine g_iadd X dL_law_266 ?_
  refine g_sld X Y dL_law_267 ?_
  refine g_aload_n X dL_law_268 rfl ?_
  refine g_iload_n X dL_law_269 rfl ?_
  refine g_iconst X 2 dL_law_270 (by decide) ?_
  refine g_iadd X dL_law_271 ?_
  refine g_sld X Y dL_law_272 ?_
  refine g_aload_n X dL_law_273 rfl ?_
  refine g_iload_n X dL_law_274 rfl ?_
  refine g_iconst X 3 dL_law_275 (by decide) ?_
  refine g_iadd X dL_law_276 ?_
  refine g_sld X Y dL_law_277 ?_
  refine g_virtI X [.int (xs (ix (u18 + 1))), .int (xs (ix (u18 + 2))), .int (xs (ix (u18 + 3)))] [] k_0 mm_H_set mv_H_set ml_L_23 (okH_set (xs (ix (u18 + 1))) (xs (ix (u18 + 2))) (xs (ix (u18 + 3))) s0 C.l C.w) rfl (by decide) rfl (Nat.le_of_ble_eq_true rfl) dL_law_278 (fun r2 s1 => ?_)
  refine g_aload_n X dL_law_281 rfl ?_
  refine g_aload_n X dL_law_282 rfl ?_
  refine g_iload_n X dL_law_283 rfl ?_
  refine g_iconst X 1 dL_law_284 (by decide) ?_
  refine g_iadd X dL_law_285 ?_
  refine g_sld X Y dL_law_286 ?_
  refine g_aload_n X dL_law_287 rfl ?_
  refine g_iload_n X dL_law_288 rfl ?_
  refine g_iconst X 2 dL_law_289 (by decide) ?_
  refine g_iadd X dL_law_290 ?_
  refine g_sld X Y dL_law_291 ?_
  refine g_aload_n X dL_law_292 rfl ?_
  refine g_iload_n X dL_law_293 rfl ?_
  refine g_iconst X 3 dL_law_294 (by decide) ?_
  refine g_iadd X dL_law_295 ?_
  refine g_sld X Y dL_law_296 ?_
  refine g_virtI X [.int (xs (ix (u18 + 1))), .int (xs (ix (u18 + 2))), .int (xs (ix (u18 + 3)))] [.int r2] k_102 mm_M_set mv_M_set ml_L_27 (okM_set (xs (ix (u18 + 1))) (xs (ix (u18 + 2))) (xs (ix (u18 + 3))) s1 C.l C.w) rfl (by decide) rfl (Nat.le_of_ble_eq_true rfl) dL_law_297 (fun r4 s3 => ?_)
  refine g_ceq X (tgt := 1369) dL_law_300 (by decide) ?_ ?_
  · exact gf_sub (hj1369 s3) (by simp [lsub])
  · refine g_iconst X 0 dL_law_303 (by decide) ?_
    exact g_lret X E dL_law_304
def fL_3 (j1369 : Sg → Option (Int32 × Sg)) (xs : Nat → Int32) (n : Nat) (u18 : Int32) (s0 : Sg) : Option (Int32 × Sg) := gd (u18 + 1) n (gd (u18 + 2) n (gd (u18 + 3) n (bi (fH_act (xs (ix (u18 + 1))) (xs (ix (u18 + 2))) (xs (ix (u18 + 3))) s0) fun r2 s1 => gd (u18 + 1) n (gd (u18 + 2) n (gd (u18 + 3) n (bi (fM_act (xs (ix (u18 + 1))) (xs (ix (u18 + 2))) (xs (ix (u18 + 3))) s1) fun r4 s3 => if r2 = r4 then (j1369 s3) else (some (0, s3))))))))
set_option maxHeartbeats 4000000 in
set_option maxRecDepth 100000 in
theorem okL_3 {C : Cx} {b n : Nat} {xs : Nat → Int32} (X : Fx C cL_law 4 R_law ret 16) (E : LE C b) (Y : LX C b n xs) (j1369 : Sg → Option (Int32 × Sg)) (u18 : Int32) (hj1369 : ∀ s : Sg, GF C evI 1369 [some (.ref b), some (.ref (C.w.ad 0)), some (.ref (C.w.ad 102)), some (.int u18)] [] s (j1369 s)) (s0 : Sg) : GF C evI 305 [some (.ref b), some (.ref (C.w.ad 0)), some (.ref (C.w.ad 102)), some (.int u18)] [] s0 (fL_3 j1369 xs n u18 s0) := by
  unfold fL_3
  refine g_aload_n X dL_law_305 rfl ?_
  refine g_aload_n X dL_law_306 rfl ?_
  refine g_iload_n X dL_law_307 rfl ?_
  refine g_iconst X 1 dL_law_308 (by decide) ?_
  refine g_iadd X dL_law_309 ?_
  refine g_sld X Y dL_law_310 ?_
  refine g_aload_n X dL_law_311 rfl ?_
  refine g_iload_n X dL_law_312 rfl ?_
  refine g_iconst X 2 dL_law_313 (by decide) ?_
  refine g_iadd X dL_law_314 ?_
  refine g_sld X Y dL_law_315 ?_
  refine g_aload_n X dL_law_316 rfl ?_
  refine g_iload_n X dL_law_317 rfl ?_
  refine g_iconst X 3 dL_law_318 (by decide) ?_
  refine g_iadd X dL_law_319 ?_
  refine g_sld X Y dL_law_320 ?_
  refine g_virtI X [.int (xs (ix (u18 + 1))), .int (xs (ix (u18 + 2))), .int (xs (ix (u18 + 3)))] [] k_0 mm_H_act mv_H_act ml_L_28 (okH_act (xs (ix (u18 + 1))) (xs (ix (u18 + 2))) (xs (ix (u18 + 3))) s0 C.l C.w) rfl (by decide) rfl (Nat.le_of_ble_eq_true rfl) dL_law_321 (fun r2 s1 => ?_)
  refine g_aload_n X dL_law_324 rfl ?_
  refine g_aload_n X dL_law_325 rfl ?_
  refine g_iload_n X dL_law_326 rfl ?_
  refine g_iconst X 1 dL_law_327 (by decide) ?_
  refine g_iadd X dL_law_328 ?_
  refine g_sld X Y dL_law_329 ?_
  refine g_aload_n X dL_law_330 rfl ?_
  refine g_iload_n X dL_law_331 rfl ?_
  refine g_iconst X 2 dL_law_332 (by decide) ?_
  refine g_iadd X dL_law_333 ?_
  refine g_sld X Y dL_law_334 ?_
  refine g_aload_n X dL_law_335 rfl ?_
  refine g_iload_n X dL_law_336 rfl ?_
  refine g_iconst X 3 dL_law_337 (by decide) ?_
  refine g_iadd X dL_law_338 ?_
  refine g_sld X Y dL_law_339 ?_
  refine g_virtI X [.int (xs (ix (u18 + 1))), .int (xs (ix (u18 + 2))), .int (xs (ix (u18 + 3)))] [.int r2] k_102 mm_M_act mv_M_act ml_L_31 (okM_act (xs (ix (u18 + 1))) (xs (ix (u18 + 2))) (xs (ix (u18 + 3))) s1 C.l C.w) rfl (by decide) rfl (Nat.le_of_ble_eq_true rfl) dL_law_340 (fun r4 s3 => ?_)
  refine g_ceq X (tgt := 1369) dL_law_343 (by decide) ?_ ?_
  · exact gf_sub (hj1369 s3) (by simp [lsub])
  · refine g_iconst X 0 dL_law_346 (by decide) ?_
    exact g_lret X E dL_law_347
def fL_4 (j1369 : Sg → Option (Int32 × Sg)) (xs : Nat → Int32) (n : Nat) (u18 : Int32) (s0 : Sg) : Option (Int32 × Sg) := gd (u18 + 1) n (bi (fH_ask (xs (ix (u18 + 1))) s0) fun r2 s1 => gd (u18 + 1) n (bi (fM_ask (xs (ix (u18 + 1))) s1) fun r4 s3 => if r2 = r4 then (j1369 s3) else (some (0, s3))))
set_option maxHeartbeats 4000000 in
set_option maxRecDepth 100000 in
theorem okL_4 {C : Cx} {b n : Nat} {xs : Nat → Int32} (X : Fx C cL_law 4 R_law ret 16) (E : LE C b) (Y : LX C b n xs) (j1369 : Sg → Option (Int32 × Sg)) (u18 : Int32) (hj1369 : ∀ s : Sg, GF C evI 1369 [some (.ref b), some (.ref (C.w.ad 0)), some (.ref (C.w.ad 102)), some (.int u18)] [] s (j1369 s)) (s0 : Sg) : GF C evI 348 [some (.ref b), some (.ref (C.w.ad 0)), some (.ref (C.w.ad 102)), some (.int u18)] [] s0 (fL_4 j1369 xs n u18 s0) := by
  unfold fL_4
  refine g_aload_n X dL_law_348 rfl ?_
  refine g_aload_n X dL_law_349 rfl ?_
  refine g_iload_n X dL_law_350 rfl ?_
  refine g_iconst X 1 dL_law_351 (by decide) ?_
  refine g_iadd X dL_law_352 ?_
  refine g_sld X Y dL_law_353 ?_
  refine g_virtI X [.int (xs (ix (u18 + 1)))] [] k_0 mm_H_ask mv_H_ask ml_L_32 (okH_ask (xs (ix (u18 + 1))) s0 C.l C.w) rfl (by decide) rfl (Nat.le_of_ble_eq_true rfl) dL_law_354 (fun r2 s1 => ?_)
  refine g_aload_n X dL_law_357 rfl ?_
  refine g_aload_n X dL_law_358 rfl ?_
  refine g_iload_n X dL_law_359 rfl ?_
  refine g_iconst X 1 dL_law_360 (by decide) ?_
  refine g_iadd X dL_law_361 ?_
  refine g_sld X Y dL_law_362 ?_
  refine g_virtI X [.int (xs (ix (u18 + 1)))] [.int r2] k_102 mm_M_ask mv_M_ask ml_L_35 (okM_ask (xs (ix (u18 + 1))) s1 C.l C.w) rfl (by decide) rfl (Nat.le_of_ble_eq_true rfl) dL_law_363 (fun r4 s3 => ?_)
  refine g_ceq X (tgt := 1369) dL_law_366 (by decide) ?_ ?_
  · exact gf_sub (hj1369 s3) (by simp [lsub])
  · refine g_iconst X 0 dL_law_369 (by decide) ?_
    exact g_lret X E dL_law_370
def fL_5 (j1369 : Sg → Option (Int32 × Sg)) (xs : Nat → Int32) (n : Nat) (u18 : Int32) (s0 : Sg) : Option (Int32 × Sg) := gd (u18 + 1) n (bi (fH_minutes (xs (ix (u18 + 1))) s0) fun r2 s1 => gd (u18 + 1) n (bi (fM_minutes (xs (ix (u18 + 1))) s1) fun r4 s3 => if r2 = r4 then (j1369 s3) else (some (0, s3))))
set_option maxHeartbeats 4000000 in
set_option maxRecDepth 100000 in
theorem okL_5 {C : Cx} {b n : Nat} {xs : Nat → Int32} (X : Fx C cL_law 4 R_law ret 16) (E : LE C b) (Y : LX C b n xs) (j1369 : Sg → Option (Int32 × Sg)) (u18 : Int32) (hj1369 : ∀ s : Sg, GF C evI 1369 [some (.ref b), some (.ref (C.w.ad 0)), some (.ref (C.w.ad 102)), some (.int u18)] [] s (j1369 s)) (s0 : Sg) : GF C evI 371 [some (.ref b), some (.ref (C.w.ad 0)), some (.ref (C.w.ad 102)), some (.int u18)] [] s0 (fL_5 j1369 xs n u18 s0) := by
  unfold fL_5
  refine g_aload_n X dL_law_371 rfl ?_
  refine g_aload_n X dL_law_372 rfl ?_
  refine g_iload_n X dL_law_373 rfl ?_
  refine g_iconst X 1 dL_law_374 (by decide) ?_
  refine g_iadd X dL_law_375 ?_
  refine g_sld X Y dL_law_376 ?_
  refine g_virtI X [.int (xs (ix (u18 + 1)))] [] k_0 mm_H_minutes mv_H_minutes ml_L_36 (okH_minutes (xs (ix (u18 + 1))) s0 C.l C.w) rfl (by decide) rfl (Nat.le_of_ble_eq_true rfl) dL_law_377 (fun r2 s1 => ?_)
  refine g_aload_n X dL_law_380 rfl ?_
  refine g_aload_n X dL_law_381 rfl ?_
  refine g_iload_n X dL_law_382 rfl ?_
  refine g_iconst X 1 dL_law_383 (by decide) ?_
  refine g_iadd X dL_law_384 ?_
  refine g_sld X Y dL_law_385 ?_
  refine g_virtI X [.int (xs (ix (u18 + 1)))] [.int r2] k_102 mm_M_minutes mv_M_minutes ml_L_39 (okM_minutes (xs (ix (u18 + 1))) s1 C.l C.w) rfl (by decide) rfl (Nat.le_of_ble_eq_true rfl) dL_law_386 (fun r4 s3 => ?_)
  refine g_ceq X (tgt := 1369) dL_law_389 (by decide) ?_ ?_
  · exact gf_sub (hj1369 s3) (by simp [lsub])
  · refine g_iconst X 0 dL_law_392 (by decide) ?_
    exact g_lret X E dL_law_393
def fL_6 (j1369 : Sg → Option (Int32 × Sg)) (xs : Nat → Int32) (n : Nat) (u18 : Int32) (s0 : Sg) : Option (Int32 × Sg) := gd (u18 + 1) n (gd (u18 + 2) n (gd (u18 + 3) n (gd (u18 + 4) n (gd (u18 + 5) n (bi (fH_feed (xs (ix (u18 + 1))) (xs (ix (u18 + 2))) (xs (ix (u18 + 3))) (xs (ix (u18 + 4))) (xs (ix (u18 + 5))) s0) fun r2 s1 => gd (u18 + 1) n (gd (u18 + 2) n (gd (u18 + 3) n (gd (u18 + 4) n (gd (u18 + 5) n (bi (fM_feed (xs (ix (u18 + 1))) (xs (ix (u18 + 2))) (xs (ix (u18 + 3))) (xs (ix (u18 + 4))) (xs (ix (u18 + 5))) s1) fun r4 s3 => if r2 = r4 then (j1369 s3) else (some (0, s3))))))))))))
set_option maxHeartbeats 4000000 in
set_option maxRecDepth 100000 in
theorem okL_6 {C : Cx} {b n : Nat} {xs : Nat → Int32} (X : Fx C cL_law 4 R_law ret 16) (E : LE C b) (Y : LX C b n xs) (j1369 : Sg → Option (Int32 × Sg)) (u18 : Int32) (hj1369 : ∀ s : Sg, GF C evI 1369 [some (.ref b), some (.ref (C.w.ad 0)), some (.ref (C.w.ad 102)), some (.int u18)] [] s (j1369 s)) (s0 : Sg) : GF C evI 394 [some (.ref b), some (.ref (C.w.ad 0)), some (.ref (C.w.ad 102)), some (.int u18)] [] s0 (fL_6 j1369 xs n u18 s0) := by
  unfold fL_6
  refine g_aload_n X dL_law_394 rfl ?_
  refine g_aload_n X dL_law_395 rfl ?_
  refine g_iload_n X dL_law_396 rfl ?_
  refine g_iconst X 1 dL_law_397 (by decide) ?_
  refine g_iadd X dL_law_398 ?_
  refine g_sld X Y dL_law_399 ?_
  refine g_aload_n X dL_law_400 rfl ?_
  refine g_iload_n X dL_law_401 rfl ?_
  refine g_iconst X 2 dL_law_402 (by decide) ?_
  refine g_iadd X dL_law_403 ?_
  refine g_sld X Y dL_law_404 ?_
  refine g_aload_n X dL_law_405 rfl ?_
  refine g_iload_n X dL_law_406 rfl ?_
  refine g_iconst X 3 dL_law_407 (by decide) ?_
  refine g_iadd X dL_law_408 ?_
  refine g_sld X Y dL_law_409 ?_
  refine g_aload_n X dL_law_410 rfl ?_
  refine g_iload_n X dL_law_411 rfl ?_
  refine g_iconst X 4 dL_law_412 (by decide) ?_
  refine g_iadd X dL_law_413 ?_
  refine g_sld X Y dL_law_414 ?_
  refine g_aload_n X dL_law_415 rfl ?_
  refine g_iload_n X dL_law_416 rfl ?_
  refine g_iconst X 5 dL_law_417 (by decide) ?_
  refine g_iadd X dL_law_418 ?_
  refine g_sld X Y dL_law_419 ?_
  refine g_virtI X [.int (xs (ix (u18 + 1))), .int (xs (ix (u18 + 2))), .int (xs (ix (u18 + 3))), .int (xs (ix (u18 + 4))), .int (xs (ix (u18 + 5)))] [] k_0 mm_H_feed mv_H_feed ml_L_40 (okH_feed (xs (ix (u18 + 1))) (xs (ix (u18 + 2))) (xs (ix (u18 + 3))) (xs (ix (u18 + 4))) (xs (ix (u18 + 5))) s0 C.l C.w) rfl (by decide) rfl (Nat.le_of_ble_eq_true rfl) dL_law_420 (fun r2 s1 => ?_)
  refine g_aload_n X dL_law_423 rfl ?_
  refine g_aload_n X dL_law_424 rfl ?_
  refine g_iload_n X dL_law_425 rfl ?_
  refine g_iconst X 1 dL_law_426 (by decide) ?_
  refine g_iadd X dL_law_427 ?_
  refine g_sld X Y dL_law_428 ?_
  refine g_aload_n X dL_law_429 rfl ?_
  refine g_iload_n X dL_law_430 rfl ?_
  refine g_iconst X 2 dL_law_431 (by decide) ?_
  refine g_iadd X dL_law_432 ?_
  refine g_sld X Y dL_law_433 ?_
  refine g_aload_n X dL_law_434 rfl ?_
  refine g_iload_n X dL_law_435 rfl ?_
  refine g_iconst X 3 dL_law_436 (by decide) ?_
  refine g_iadd X dL_law_437 ?_
  refine g_sld X Y dL_law_438 ?_
  refine g_aload_n X dL_law_439 rfl ?_
  refine g_iload_n X dL_law_440 rfl ?_
  refine g_iconst X 4 dL_law_441 (by decide) ?_
  refine g_iadd X dL_law_442 ?_
  refine g_sld X Y dL_law_443 ?_
  refine g_aload_n X dL_law_444 rfl ?_
  refine g_iload_n X dL_law_445 rfl ?_
  refine g_iconst X 5 dL_law_446 (by decide) ?_
  refine g_iadd X dL_law_447 ?_
  refine g_sld X Y dL_law_448 ?_
  refine g_virtI X [.int (xs (ix (u18 + 1))), .int (xs (ix (u18 + 2))), .int (xs (ix (u18 + 3))), .int (xs (ix (u18 + 4))), .int (xs (ix (u18 + 5)))] [.int r2] k_102 mm_M_feed mv_M_feed ml_L_44 (okM_feed (xs (ix (u18 + 1))) (xs (ix (u18 + 2))) (xs (ix (u18 + 3))) (xs (ix (u18 + 4))) (xs (ix (u18 + 5))) s1 C.l C.w) rfl (by decide) rfl (Nat.le_of_ble_eq_true rfl) dL_law_449 (fun r4 s3 => ?_)
  refine g_ceq X (tgt := 1369) dL_law_452 (by decide) ?_ ?_
  · exact gf_sub (hj1369 s3) (by simp [lsub])
  · refine g_iconst X 0 dL_law_455 (by decide) ?_
    exact g_lret X E dL_law_456
def fL_7 (j1369 : Sg → Option (Int32 × Sg)) (xs : Nat → Int32) (n : Nat) (u18 : Int32) (s0 : Sg) : Option (Int32 × Sg) := gd (u18 + 1) n (bi (fH_end (xs (ix (u18 + 1))) s0) fun r2 s1 => gd (u18 + 1) n (bi (fM_end (xs (ix (u18 + 1))) s1) fun r4 s3 => if r2 = r4 then (j1369 s3) else (some (0, s3))))
set_option maxHeartbeats 4000000 in
set_option maxRecDepth 100000 in
theorem okL_7 {C : Cx} {b n : Nat} {xs : Nat → Int32} (X : Fx C cL_law 4 R_law ret 16) (E : LE C b) (Y : LX C b n xs) (j1369 : Sg → Option (Int32 × Sg)) (u18 : Int32) (hj1369 : ∀ s : Sg, GF C evI 1369 [some (.ref b), some (.ref (C.w.ad 0)), some (.ref (C.w.ad 102)), some (.int u18)] [] s (j1369 s)) (s0 : Sg) : GF C evI 457 [some (.ref b), some (.ref (C.w.ad 0)), some (.ref (C.w.ad 102)), some (.int u18)] [] s0 (fL_7 j1369 xs n u18 s0) := by
  unfold fL_7
  refine g_aload_n X dL_law_457 rfl ?_
  refine g_aload_n X dL_law_458 rfl ?_
  refine g_iload_n X dL_law_459 rfl ?_
  refine g_iconst X 1 dL_law_460 (by decide) ?_
  refine g_iadd X dL_law_461 ?_
  refine g_sld X Y dL_law_462 ?_
  refine g_virtI X [.int (xs (ix (u18 + 1)))] [] k_0 mm_H_end mv_H_end ml_L_45 (okH_end (xs (ix (u18 + 1))) s0 C.l C.w) rfl (by decide) rfl (Nat.le_of_ble_eq_true rfl) dL_law_463 (fun r2 s1 => ?_)
  refine g_aload_n X dL_law_466 rfl ?_
  refine g_aload_n X dL_law_467 rfl ?_
  refine g_iload_n X dL_law_468 rfl ?_
  refine g_iconst X 1 dL_law_469 (by decide) ?_
  refine g_iadd X dL_law_470 ?_
  refine g_sld X Y dL_law_471 ?_
  refine g_virtI X [.int (xs (ix (u18 + 1)))] [.int r2] k_102 mm_M_end mv_M_end ml_L_49 (okM_end (xs (ix (u18 + 1))) s1 C.l C.w) rfl (by decide) rfl (Nat.le_of_ble_eq_true rfl) dL_law_472 (fun r4 s3 => ?_)
  refine g_ceq X (tgt := 1369) dL_law_475 (by decide) ?_ ?_
  · exact gf_sub (hj1369 s3) (by simp [lsub])
  · refine g_iconst X 0 dL_law_478 (by decide) ?_
    exact g_lret X E dL_law_479
def fL_8 (j1369 : Sg → Option (Int32 × Sg)) (xs : Nat → Int32) (n : Nat) (u18 : Int32) (s0 : Sg) : Option (Int32 × Sg) := gd (u18 + 1) n (bi (fH_text (xs (ix (u18 + 1))) s0) fun r2 s1 => gd (u18 + 1) n (bi (fM_text (xs (ix (u18 + 1))) s1) fun r4 s3 => if r2 = r4 then (j1369 s3) else (some (0, s3))))
set_option maxHeartbeats 4000000 in
set_option maxRecDepth 100000 in
theorem okL_8 {C : Cx} {b n : Nat} {xs : Nat → Int32} (X : Fx C cL_law 4 R_law ret 16) (E : LE C b) (Y : LX C b n xs) (j1369 : Sg → Option (Int32 × Sg)) (u18 : Int32) (hj1369 : ∀ s : Sg, GF C evI 1369 [some (.ref b), some (.ref (C.w.ad 0)), some (.ref (C.w.ad 102)), some (.int u18)] [] s (j1369 s)) (s0 : Sg) : GF C evI 480 [some (.ref b), some (.ref (C.w.ad 0)), some (.ref (C.w.ad 102)), some (.int u18)] [] s0 (fL_8 j1369 xs n u18 s0) := by
  unfold fL_8
  refine g_aload_n X dL_law_480 rfl ?_
  refine g_aload_n X dL_law_481 rfl ?_
  refine g_iload_n X dL_law_482 rfl ?_
  refine g_iconst X 1 dL_law_483 (by decide) ?_
  refine g_iadd X dL_law_484 ?_
  refine g_sld X Y dL_law_485 ?_
  refine g_virtI X [.int (xs (ix (u18 + 1)))] [] k_0 mm_H_text mv_H_text ml_L_50 (okH_text (xs (ix (u18 + 1))) s0 C.l C.w) rfl (by decide) rfl (Nat.le_of_ble_eq_true rfl) dL_law_486 (fun r2 s1 => ?_)
  refine g_aload_n X dL_law_489 rfl ?_
  refine g_aload_n X dL_law_490 rfl ?_
  refine g_iload_n X dL_law_491 rfl ?_
  refine g_iconst X 1 dL_law_492 (by decide) ?_
  refine g_iadd X dL_law_493 ?_
  refine g_sld X Y dL_law_494 ?_
  refine g_virtI X [.int (xs (ix (u18 + 1)))] [.int r2] k_102 mm_M_text mv_M_text ml_L_53 (okM_text (xs (ix (u18 + 1))) s1 C.l C.w) rfl (by decide) rfl (Nat.le_of_ble_eq_true rfl) dL_law_495 (fun r4 s3 => ?_)
  refine g_ceq X (tgt := 1369) dL_law_498 (by decide) ?_ ?_
  · exact gf_sub (hj1369 s3) (by simp [lsub])
  · refine g_iconst X 0 dL_law_501 (by decide) ?_
    exact g_lret X E dL_law_502
def fL_9 (j1369 : Sg → Option (Int32 × Sg)) (xs : Nat → Int32) (n : Nat) (u18 : Int32) (s0 : Sg) : Option (Int32 × Sg) := gd (u18 + 1) n (bi (fH_fault (xs (ix (u18 + 1))) s0) fun r2 s1 => gd (u18 + 1) n (bi (fM_fault (xs (ix (u18 + 1))) s1) fun r4 s3 => if r2 = r4 then (j1369 s3) else (some (0, s3))))
set_option maxHeartbeats 4000000 in
set_option maxRecDepth 100000 in
theorem okL_9 {C : Cx} {b n : Nat} {xs : Nat → Int32} (X : Fx C cL_law 4 R_law ret 16) (E : LE C b) (Y : LX C b n xs) (j1369 : Sg → Option (Int32 × Sg)) (u18 : Int32) (hj1369 : ∀ s : Sg, GF C evI 1369 [some (.ref b), some (.ref (C.w.ad 0)), some (.ref (C.w.ad 102)), some (.int u18)] [] s (j1369 s)) (s0 : Sg) : GF C evI 503 [some (.ref b), some (.ref (C.w.ad 0)), some (.ref (C.w.ad 102)), some (.int u18)] [] s0 (fL_9 j1369 xs n u18 s0) := by
  unfold fL_9
  refine g_aload_n X dL_law_503 rfl ?_
  refine g_aload_n X dL_law_504 rfl ?_
  refine g_iload_n X dL_law_505 rfl ?_
  refine g_iconst X 1 dL_law_506 (by decide) ?_
  refine g_iadd X dL_law_507 ?_
  refine g_sld X Y dL_law_508 ?_
  refine g_virtI X [.int (xs (ix (u18 + 1)))] [] k_0 mm_H_fault mv_H_fault ml_L_54 (okH_fault (xs (ix (u18 + 1))) s0 C.l C.w) rfl (by decide) rfl (Nat.le_of_ble_eq_true rfl) dL_law_509 (fun r2 s1 => ?_)
  refine g_aload_n X dL_law_512 rfl ?_
  refine g_aload_n X dL_law_513 rfl ?_
  refine g_iload_n X dL_law_514 rfl ?_
  refine g_iconst X 1 dL_law_515 (by decide) ?_
  refine g_iadd X dL_law_516 ?_
  refine g_sld X Y dL_law_517 ?_
  refine g_virtI X [.int (xs (ix (u18 + 1)))] [.int r2] k_102 mm_M_fault mv_M_fault ml_L_57 (okM_fault (xs (ix (u18 + 1))) s1 C.l C.w) rfl (by decide) rfl (Nat.le_of_ble_eq_true rfl) dL_law_518 (fun r4 s3 => ?_)
  refine g_ceq X (tgt := 1369) dL_law_521 (by decide) ?_ ?_
  · exact gf_sub (hj1369 s3) (by simp [lsub])
  · refine g_iconst X 0 dL_law_524 (by decide) ?_
    exact g_lret X E dL_law_525
def fL_10 (j1369 : Sg → Option (Int32 × Sg)) (xs : Nat → Int32) (n : Nat) (u18 : Int32) (s0 : Sg) : Option (Int32 × Sg) := gd (u18 + 1) n (gd (u18 + 2) n (bi (fH_of (xs (ix (u18 + 1))) (xs (ix (u18 + 2))) s0) fun r2 s1 => gd (u18 + 1) n (gd (u18 + 2) n (bi (fM_of (xs (ix (u18 + 1))) (xs (ix (u18 + 2))) s1) fun r4 s3 => if r2 = r4 then (j1369 s3) else (some (0, s3))))))
set_option maxHeartbeats 4000000 in
set_option maxRecDepth 100000 in
theorem okL_10 {C : Cx} {b n : Nat} {xs : Nat → Int32} (X : Fx C cL_law 4 R_law ret 16) (E : LE C b) (Y : LX C b n xs) (j1369 : Sg → Option (Int32 × Sg)) (u18 : Int32) (hj1369 : ∀ s : Sg, GF C evI 1369 [some (.ref b), some (.ref (C.w.ad 0)), some (.ref (C.w.ad 102)), some (.int u18)] [] s (j1369 s)) (s0 : Sg) : GF C evI 526 [some (.ref b), some (.ref (C.w.ad 0)), some (.ref (C.w.ad 102)), some (.int u18)] [] s0 (fL_10 j1369 xs n u18 s0) := by
  unfold fL_10
  refine g_aload_n X dL_law_526 rfl ?_
  refine g_aload_n X dL_law_527 rfl ?_
  refine g_iload_n X dL_law_528 rfl ?_
  refine g_iconst X 1 dL_law_529 (by decide) ?_
  refine g_iadd X dL_law_530 ?_
  refine g_sld X Y dL_law_531 ?_
  refine g_aload_n X dL_law_532 rfl ?_
  refine g_iload_n X dL_law_533 rfl ?_
  refine g_iconst X 2 dL_law_534 (by decide) ?_
  refine g_iadd X dL_law_535 ?_
  refine g_sld X Y dL_law_536 ?_
  refine g_virtI X [.int (xs (ix (u18 + 1))), .int (xs (ix (u18 + 2)))] [] k_0 mm_H_of mv_H_of ml_L_58 (okH_of (xs (ix (u18 + 1))) (xs (ix (u18 + 2))) s0 C.l C.w) rfl (by decide) rfl (Nat.le_of_ble_eq_true rfl) dL_law_537 (fun r2 s1 => ?_)
  refine g_aload_n X dL_law_540 rfl ?_
  refine g_aload_n X dL_law_541 rfl ?_
  refine g_iload_n X dL_law_542 rfl ?_
  refine g_iconst X 1 dL_law_543 (by decide) ?_
  refine g_iadd X dL_law_544 ?_
  refine g_sld X Y dL_law_545 ?_
  refine g_aload_n X dL_law_546 rfl ?_
  refine g_iload_n X dL_law_547 rfl ?_
  refine g_iconst X 2 dL_law_548 (by decide) ?_
  refine g_iadd X dL_law_549 ?_
  refine g_sld X Y dL_law_550 ?_
  refine g_virtI X [.int (xs (ix (u18 + 1))), .int (xs (ix (u18 + 2)))] [.int r2] k_102 mm_M_of mv_M_of ml_L_62 (okM_of (xs (ix (u18 + 1))) (xs (ix (u18 + 2))) s1 C.l C.w) rfl (by decide) rfl (Nat.le_of_ble_eq_true rfl) dL_law_551 (fun r4 s3 => ?_)
  refine g_ceq X (tgt := 1369) dL_law_554 (by decide) ?_ ?_
  · exact gf_sub (hj1369 s3) (by simp [lsub])
  · refine g_iconst X 0 dL_law_557 (by decide) ?_
    exact g_lret X E dL_law_558
def fL_11 (j1369 : Sg → Option (Int32 × Sg)) (xs : Nat → Int32) (n : Nat) (u18 : Int32) (s0 : Sg) : Option (Int32 × Sg) := gd (u18 + 1) n (gd (u18 + 2) n (bi (fH_book (xs (ix (u18 + 1))) (xs (ix (u18 + 2))) s0) fun r2 s1 => gd (u18 + 1) n (gd (u18 + 2) n (bi (fM_book (xs (ix (u18 + 1))) (xs (ix (u18 + 2))) s1) fun r4 s3 => if r2 = r4 then (j1369 s3) else (some (0, s3))))))
set_option maxHeartbeats 4000000 in
set_option maxRecDepth 100000 in
theorem okL_11 {C : Cx} {b n : Nat} {xs : Nat → Int32} (X : Fx C cL_law 4 R_law ret 16) (E : LE C b) (Y : LX C b n xs) (j1369 : Sg → Option (Int32 × Sg)) (u18 : Int32) (hj1369 : ∀ s : Sg, GF C evI 1369 [some (.ref b), some (.ref (C.w.ad 0)), some (.ref (C.w.ad 102)), some (.int u18)] [] s (j1369 s)) (s0 : Sg) : GF C evI 559 [some (.ref b), some (.ref (C.w.ad 0)), some (.ref (C.w.ad 102)), some (.int u18)] [] s0 (fL_11 j1369 xs n u18 s0) := by
  unfold fL_11
  refine g_aload_n X dL_law_559 rfl ?_
  refine g_aload_n X dL_law_560 rfl ?_
  refine g_iload_n X dL_law_561 rfl ?_
  refine g_iconst X 1 dL_law_562 (by decide) ?_
  refine g_iadd X dL_law_563 ?_
  refine g_sld X Y dL_law_564 ?_
  refine g_aload_n X dL_law_565 rfl ?_
  refine g_iload_n X dL_law_566 rfl ?_
  refine g_iconst X 2 dL_law_567 (by decide) ?_
  refine g_iadd X dL_law_568 ?_
  refine g_sld X Y dL_law_569 ?_
  refine g_virtI X [.int (xs (ix (u18 + 1))), .int (xs (ix (u18 + 2)))] [] k_0 mm_H_book mv_H_book ml_L_63 (okH_book (xs (ix (u18 + 1))) (xs (ix (u18 + 2))) s0 C.l C.w) rfl (by decide) rfl (Nat.le_of_ble_eq_true rfl) dL_law_570 (fun r2 s1 => ?_)
  refine g_aload_n X dL_law_573 rfl ?_
  refine g_aload_n X dL_law_574 rfl ?_
  refine g_iload_n X dL_law_575 rfl ?_
  refine g_iconst X 1 dL_law_576 (by decide) ?_
  refine g_iadd X dL_law_577 ?_
  refine g_sld X Y dL_law_578 ?_
  refine g_aload_n X dL_law_579 rfl ?_
  refine g_iload_n X dL_law_580 rfl ?_
  refine g_iconst X 2 dL_law_581 (by decide) ?_
  refine g_iadd X dL_law_582 ?_
  refine g_sld X Y dL_law_583 ?_
  refine g_virtI X [.int (xs (ix (u18 + 1))), .int (xs (ix (u18 + 2)))] [.int r2] k_102 mm_M_book mv_M_book ml_L_66 (okM_book (xs (ix (u18 + 1))) (xs (ix (u18 + 2))) s1 C.l C.w) rfl (by decide) rfl (Nat.le_of_ble_eq_true rfl) dL_law_584 (fun r4 s3 => ?_)
  refine g_ceq X (tgt := 1369) dL_law_587 (by decide) ?_ ?_
  · exact gf_sub (hj1369 s3) (by simp [lsub])
  · refine g_iconst X 0 dL_law_590 (by decide) ?_
    exact g_lret X E dL_law_591
def fL_12 (j1369 : Sg → Option (Int32 × Sg)) (xs : Nat → Int32) (n : Nat) (u18 : Int32) (s0 : Sg) : Option (Int32 × Sg) := gd (u18 + 1) n (gd (u18 + 2) n (bi (fH_goes (xs (ix (u18 + 1))) (xs (ix (u18 + 2))) s0) fun r2 s1 => gd (u18 + 1) n (gd (u18 + 2) n (bi (fM_goes (xs (ix (u18 + 1))) (xs (ix (u18 + 2))) s1) fun r4 s3 => if r2 = r4 then (j1369 s3) else (some (0, s3))))))
set_option maxHeartbeats 4000000 in
set_option maxRecDepth 100000 in
theorem okL_12 {C : Cx} {b n : Nat} {xs : Nat → Int32} (X : Fx C cL_law 4 R_law ret 16) (E : LE C b) (Y : LX C b n xs) (j1369 : Sg → Option (Int32 × Sg)) (u18 : Int32) (hj1369 : ∀ s : Sg, GF C evI 1369 [some (.ref b), some (.ref (C.w.ad 0)), some (.ref (C.w.ad 102)), some (.int u18)] [] s (j1369 s)) (s0 : Sg) : GF C evI 592 [some (.ref b), some (.ref (C.w.ad 0)), some (.ref (C.w.ad 102)), some (.int u18)] [] s0 (fL_12 j1369 xs n u18 s0) := by
  unfold fL_12
  refine g_aload_n X dL_law_592 rfl ?_
  refine g_aload_n X dL_law_593 rfl ?_
  refine g_iload_n X dL_law_594 rfl ?_
  refine g_iconst X 1 dL_law_595 (by decide) ?_
  refine g_iadd X dL_law_596 ?_
  refine g_sld X Y dL_law_597 ?_
  refine g_aload_n X dL_law_598 rfl ?_
  refine g_iload_n X dL_law_599 rfl ?_
  refine g_iconst X 2 dL_law_600 (by decide) ?_
  refine g_iadd X dL_law_601 ?_
  refine g_sld X Y dL_law_602 ?_
  refine g_virtI X [.int (xs (ix (u18 + 1))), .int (xs (ix (u18 + 2)))] [] k_0 mm_H_goes mv_H_goes ml_L_67 (okH_goes (xs (ix (u18 + 1))) (xs (ix (u18 + 2))) s0 C.l C.w) rfl (by decide) rfl (Nat.le_of_ble_eq_true rfl) dL_law_603 (fun r2 s1 => ?_)
  refine g_aload_n X dL_law_606 rfl ?_
  refine g_aload_n X dL_law_607 rfl ?_
  refine g_iload_n X dL_law_608 rfl ?_
  refine g_iconst X 1 dL_law_609 (by decide) ?_
  refine g_iadd X dL_law_610 ?_
  refine g_sld X Y dL_law_611 ?_
  refine g_aload_n X dL_law_612 rfl ?_
  refine g_iload_n X dL_law_613 rfl ?_
  refine g_iconst X 2 dL_law_614 (by decide) ?_
  refine g_iadd X dL_law_615 ?_
  refine g_sld X Y dL_law_616 ?_
  refine g_virtI X [.int (xs (ix (u18 + 1))), .int (xs (ix (u18 + 2)))] [.int r2] k_102 mm_M_goes mv_M_goes ml_L_70 (okM_goes (xs (ix (u18 + 1))) (xs (ix (u18 + 2))) s1 C.l C.w) rfl (by decide) rfl (Nat.le_of_ble_eq_true rfl) dL_law_617 (fun r4 s3 => ?_)
  refine g_ceq X (tgt := 1369) dL_law_620 (by decide) ?_ ?_
  · exact gf_sub (hj1369 s3) (by simp [lsub])
  · refine g_iconst X 0 dL_law_623 (by decide) ?_
    exact g_lret X E dL_law_624
def fL_13 (j1369 : Sg → Option (Int32 × Sg)) (xs : Nat → Int32) (n : Nat) (u18 : Int32) (s0 : Sg) : Option (Int32 × Sg) := gd (u18 + 1) n (bi (fH_keeps (xs (ix (u18 + 1))) s0) fun r2 s1 => gd (u18 + 1) n (bi (fM_keeps (xs (ix (u18 + 1))) s1) fun r4 s3 => if r2 = r4 then (j1369 s3) else (some (0, s3))))
set_option maxHeartbeats 4000000 in
set_option maxRecDepth 100000 in
theorem okL_13 {C : Cx} {b n : Nat} {xs : Nat → Int32} (X : Fx C cL_law 4 R_law ret 16) (E : LE C b) (Y : LX C b n xs) (j1369 : Sg → Option (Int32 × Sg)) (u18 : Int32) (hj1369 : ∀ s : Sg, GF C evI 1369 [some (.ref b), some (.ref (C.w.ad 0)), some (.ref (C.w.ad 102)), some (.int u18)] [] s (j1369 s)) (s0 : Sg) : GF C evI 625 [some (.ref b), some (.ref (C.w.ad 0)), some (.ref (C.w.ad 102)), some (.int u18)] [] s0 (fL_13 j1369 xs n u18 s0) := by
  unfold fL_13
  refine g_aload_n X dL_law_625 rfl ?_
  refine g_aload_n X dL_law_626 rfl ?_
  refine g_iload_n X dL_law_627 rfl ?_
  refine g_iconst X 1 dL_law_628 (by decide) ?_
  refine g_iadd X dL_law_629 ?_
  refine g_sld X Y dL_law_630 ?_
  refine g_virtI X [.int (xs (ix (u18 + 1)))] [] k_0 mm_H_keeps mv_H_keeps ml_L_71 (okH_keeps (xs (ix (u18 + 1))) s0 C.l C.w) rfl (by decide) rfl (Nat.le_of_ble_eq_true rfl) dL_law_631 (fun r2 s1 => ?_)
  refine g_aload_n X dL_law_634 rfl ?_
  refine g_aload_n X dL_law_635 rfl ?_
  refine g_iload_n X dL_law_636 rfl ?_
  refine g_iconst X 1 dL_law_637 (by decide) ?_
  refine g_iadd X dL_law_638 ?_
  refine g_sld X Y dL_law_639 ?_
  refine g_virtI X [.int (xs (ix (u18 + 1)))] [.int r2] k_102 mm_M_keeps mv_M_keeps ml_L_74 (okM_keeps (xs (ix (u18 + 1))) s1 C.l C.w) rfl (by decide) rfl (Nat.le_of_ble_eq_true rfl) dL_law_640 (fun r4 s3 => ?_)
  refine g_ceq X (tgt := 1369) dL_law_643 (by decide) ?_ ?_
  · exact gf_sub (hj1369 s3) (by simp [lsub])
  · refine g_iconst X 0 dL_law_646 (by decide) ?_
    exact g_lret X E dL_law_647
def fL_14 (j1369 : Sg → Option (Int32 × Sg)) (xs : Nat → Int32) (n : Nat) (u18 : Int32) (s0 : Sg) : Option (Int32 × Sg) := gd (u18 + 1) n (bi (fH_earliest (xs (ix (u18 + 1))) s0) fun r2 s1 => gd (u18 + 1) n (bi (fM_earliest (xs (ix (u18 + 1))) s1) fun r4 s3 => if r2 = r4 then (j1369 s3) else (some (0, s3))))
set_option maxHeartbeats 4000000 in
set_option maxRecDepth 100000 in
theorem okL_14 {C : Cx} {b n : Nat} {xs : Nat → Int32} (X : Fx C cL_law 4 R_law ret 16) (E : LE C b) (Y : LX C b n xs) (j1369 : Sg → Option (Int32 × Sg)) (u18 : Int32) (hj1369 : ∀ s : Sg, GF C evI 1369 [some (.ref b), some (.ref (C.w.ad 0)), some (.ref (C.w.ad 102)), some (.int u18)] [] s (j1369 s)) (s0 : Sg) : GF C evI 648 [some (.ref b), some (.ref (C.w.ad 0)), some (.ref (C.w.ad 102)), some (.int u18)] [] s0 (fL_14 j1369 xs n u18 s0) := by
  unfold fL_14
  refine g_aload_n X dL_law_648 rfl ?_
  refine g_aload_n X dL_law_649 rfl ?_
  refine g_iload_n X dL_law_650 rfl ?_
  refine g_iconst X 1 dL_law_651 (by decide) ?_
  refine g_iadd X dL_law_652 ?_
  refine g_sld X Y dL_law_653 ?_
  refine g_virtI X [.int (xs (ix (u18 + 1)))] [] k_0 mm_H_earliest mv_H_earliest ml_L_75 (okH_earliest (xs (ix (u18 + 1))) s0 C.l C.w) rfl (by decide) rfl (Nat.le_of_ble_eq_true rfl) dL_law_654 (fun r2 s1 => ?_)
  refine g_aload_n X dL_law_657 rfl ?_
  refine g_aload_n X dL_law_658 rfl ?_
  refine g_iload_n X dL_law_659 rfl ?_
  refine g_iconst X 1 dL_law_660 (by decide) ?_
  refine g_iadd X dL_law_661 ?_
  refine g_sld X Y dL_law_662 ?_
  refine g_virtI X [.int (xs (ix (u18 + 1)))] [.int r2] k_102 mm_M_earliest mv_M_earliest ml_L_78 (okM_earliest (xs (ix (u18 + 1))) s1 C.l C.w) rfl (by decide) rfl (Nat.le_of_ble_eq_true rfl) dL_law_663 (fun r4 s3 => ?_)
  refine g_ceq X (tgt := 1369) dL_law_666 (by decide) ?_ ?_
  · exact gf_sub (hj1369 s3) (by simp [lsub])
  · refine g_iconst X 0 dL_law_669 (by decide) ?_
    exact g_lret X E dL_law_670
def fL_15 (j1369 : Sg → Option (Int32 × Sg)) (xs : Nat → Int32) (n : Nat) (u18 : Int32) (s0 : Sg) : Option (Int32 × Sg) := gd (u18 + 1) n (gd (u18 + 2) n (bi (fH_fits (xs (ix (u18 + 1))) (xs (ix (u18 + 2))) s0) fun r2 s1 => gd (u18 + 1) n (gd (u18 + 2) n (bi (fM_fits (xs (ix (u18 + 1))) (xs (ix (u18 + 2))) s1) fun r4 s3 => if r2 = r4 then (j1369 s3) else (some (0, s3))))))
set_option maxHeartbeats 4000000 in
set_option maxRecDepth 100000 in
theorem okL_15 {C : Cx} {b n : Nat} {xs : Nat → Int32} (X : Fx C cL_law 4 R_law ret 16) (E : LE C b) (Y : LX C b n xs) (j1369 : Sg → Option (Int32 × Sg)) (u18 : Int32) (hj1369 : ∀ s : Sg, GF C evI 1369 [some (.ref b), some (.ref (C.w.ad 0)), some (.ref (C.w.ad 102)), some (.int u18)] [] s (j1369 s)) (s0 : Sg) : GF C evI 671 [some (.ref b), some (.ref (C.w.ad 0)), some (.ref (C.w.ad 102)), some (.int u18)] [] s0 (fL_15 j1369 xs n u18 s0) := by
  unfold fL_15
  refine g_aload_n X dL_law_671 rfl ?_
  refine g_aload_n X dL_law_672 rfl ?_
  refine g_iload_n X dL_law_673 rfl ?_
  refine g_iconst X 1 dL_law_674 (by decide) ?_
  refine g_iadd X dL_law_675 ?_
  refine g_sld X Y dL_law_676 ?_
  refine g_aload_n X dL_law_677 rfl ?_
  refine g_iload_n X dL_law_678 rfl ?_
  refine g_iconst X 2 dL_law_679 (by decide) ?_
  refine g_iadd X dL_law_680 ?_
  refine g_sld X Y dL_law_681 ?_
  refine g_virtI X [.int (xs (ix (u18 + 1))), .int (xs (ix (u18 + 2)))] [] k_0 mm_H_fits mv_H_fits ml_L_79 (okH_fits (xs (ix (u18 + 1))) (xs (ix (u18 + 2))) s0 C.l C.w) rfl (by decide) rfl (Nat.le_of_ble_eq_true rfl) dL_law_682 (fun r2 s1 => ?_)
  refine g_aload_n X dL_law_685 rfl ?_
  refine g_aload_n X dL_law_686 rfl ?_
  refine g_iload_n X dL_law_687 rfl ?_
  refine g_iconst X 1 dL_law_688 (by decide) ?_
  refine g_iadd X dL_law_689 ?_
  refine g_sld X Y dL_law_690 ?_
  refine g_aload_n X dL_law_691 rfl ?_
  refine g_iload_n X dL_law_692 rfl ?_
  refine g_iconst X 2 dL_law_693 (by decide) ?_
  refine g_iadd X dL_law_694 ?_
  refine g_sld X Y dL_law_695 ?_
  refine g_virtI X [.int (xs (ix (u18 + 1))), .int (xs (ix (u18 + 2)))] [.int r2] k_102 mm_M_fits mv_M_fits ml_L_82 (okM_fits (xs (ix (u18 + 1))) (xs (ix (u18 + 2))) s1 C.l C.w) rfl (by decide) rfl (Nat.le_of_ble_eq_true rfl) dL_law_696 (fun r4 s3 => ?_)
  refine g_ceq X (tgt := 1369) dL_law_699 (by decide) ?_ ?_
  · exact gf_sub (hj1369 s3) (by simp [lsub])
  · refine g_iconst X 0 dL_law_702 (by decide) ?_
    exact g_lret X E dL_law_703
def fL_16 (j1369 : Sg → Option (Int32 × Sg)) (xs : Nat → Int32) (n : Nat) (u18 : Int32) (s0 : Sg) : Option (Int32 × Sg) := gd (u18 + 1) n (gd (u18 + 2) n (bnd (fun (b723_0 : Int32) (s1 : Sg) => bi (fH_answer (xs (ix (u18 + 1))) b723_0 s1) fun r3 s2 => gd (u18 + 1) n (gd (u18 + 2) n (bnd (fun (b745_0 : Int32) (s4 : Sg) => bi (fM_answer (xs (ix (u18 + 1))) b745_0 s4) fun r6 s5 => if r3 = r6 then (j1369 s5) else (some (0, s5))) fun j745 => if (xs (ix (u18 + 2))) = 0 then (j745 0 s2) else (j745 1 s2)))) fun j723 => if (xs (ix (u18 + 2))) = 0 then (j723 0 s0) else (j723 1 s0)))
set_option maxHeartbeats 4000000 in
set_option maxRecDepth 100000 in
theorem okL_16 {C : Cx} {b n : Nat} {xs : Nat → Int32} (X : Fx C cL_law 4 R_law ret 16) (E : LE C b) (Y : LX C b n xs) (j1369 : Sg → Option (Int32 × Sg)) (u18 : Int32) (hj1369 : ∀ s : Sg, GF C evI 1369 [some (.ref b), some (.ref (C.w.ad 0)), some (.ref (C.w.ad 102)), some (.int u18)] [] s (j1369 s)) (s0 : Sg) : GF C evI 704 [some (.ref b), some (.ref (C.w.ad 0)), some (.ref (C.w.ad 102)), some (.int u18)] [] s0 (fL_16 j1369 xs n u18 s0) := by
  unfold fL_16
  refine g_aload_n X dL_law_704 rfl ?_
  refine g_aload_n X dL_law_705 rfl ?_
  refine g_iload_n X dL_law_706 rfl ?_
  refine g_iconst X 1 dL_law_707 (by decide) ?_
  refine g_iadd X dL_law_708 ?_
  refine g_sld X Y dL_law_709 ?_
  refine g_aload_n X dL_law_710 rfl ?_
  refine g_iload_n X dL_law_711 rfl ?_
  refine g_iconst X 2 dL_law_712 (by decide) ?_
  refine g_iadd X dL_law_713 ?_
  refine g_sld X Y dL_law_714 ?_
  refine gf_jn (fun j723 => ∀ (b723_0 : Int32) (s1 : Sg), GF C evI 723 [some (.ref b), some (.ref (C.w.ad 0)), some (.ref (C.w.ad 102)), some (.int u18)] [.int b723_0, .int (xs (ix (u18 + 1))), .ref (C.w.ad 0)] s1 (j723 b723_0 s1)) ?_ ?_
  · intro b723_0 s1
    refine g_virtI X [.int (xs (ix (u18 + 1))), .int b723_0] [] k_0 mm_H_answer mv_H_answer ml_L_83 (okH_answer (xs (ix (u18 + 1))) b723_0 s1 C.l C.w) rfl (by decide) rfl (Nat.le_of_ble_eq_true rfl) dL_law_723 (fun r3 s2 => ?_)
    refine g_aload_n X dL_law_726 rfl ?_
    refine g_aload_n X dL_law_727 rfl ?_
    refine g_iload_n X dL_law_728 rfl ?_
    refine g_iconst X 1 dL_law_729 (by decide) ?_
    refine g_iadd X dL_law_730 ?_
    refine g_sld X Y dL_law_731 ?_
    refine g_aload_n X dL_law_732 rfl ?_
    refine g_iload_n X dL_law_733 rfl ?_
    refine g_iconst X 2 dL_law_734 (by decide) ?_
    refine g_iadd X dL_law_735 ?_
    refine g_sld X Y dL_law_736 ?_
    refine gf_jn (fun j745 => ∀ (b745_0 : Int32) (s4 : Sg), GF C evI 745 [some (.ref b), some (.ref (C.w.ad 0)), some (.ref (C.w.ad 102)), some (.int u18)] [.int b745_0, .int (xs (ix (u18 + 1))), .ref (C.w.ad 102), .int r3] s4 (j745 b745_0 s4)) ?_ ?_
    · intro b745_0 s4
      refine g_virtI X [.int (xs (ix (u18 + 1))), .int b745_0] [.int r3] k_102 mm_M_answer mv_M_answer ml_L_87 (okM_answer (xs (ix (u18 + 1))) b745_0 s4 C.l C.w) rfl (by decide) rfl (Nat.le_of_ble_eq_true rfl) dL_law_745 (fun r6 s5 => ?_)
      refine g_ceq X (tgt := 1369) dL_law_748 (by decide) ?_ ?_
      · exact gf_sub (hj1369 s5) (by simp [lsub])
      · refine g_iconst X 0 dL_law_751 (by decide) ?_
        exact g_lret X E dL_law_752
    · intro j745 hj745
      refine g_zeq X (tgt := 744) dL_law_737 (by decide) ?_ ?_
      · refine g_iconst X 0 dL_law_744 (by decide) ?_
        exact gf_sub (hj745 0 s2) (by simp [lsub])
      · refine g_iconst X 1 dL_law_740 (by decide) ?_
        refine g_goto X 745 dL_law_741 (by decide) ?_
        exact gf_sub (hj745 1 s2) (by simp [lsub])
  · intro j723 hj723
    refine g_zeq X (tgt := 722) dL_law_715 (by decide) ?_ ?_
    · refine g_iconst X 0 dL_law_722 (by decide) ?_
      exact gf_sub (hj723 0 s0) (by simp [lsub])
    · refine g_iconst X 1 dL_law_718 (by decide) ?_
      refine g_goto X 723 dL_law_719 (by decide) ?_
      exact gf_sub (hj723 1 s0) (by simp [lsub])
def fL_17 (j1369 : Sg → Option (Int32 × Sg)) (xs : Nat → Int32) (n : Nat) (u18 : Int32) (s0 : Sg) : Option (Int32 × Sg) := gd (u18 + 1) n (bi (fH_could (xs (ix (u18 + 1))) s0) fun r2 s1 => gd (u18 + 1) n (bi (fM_could (xs (ix (u18 + 1))) s1) fun r4 s3 => if r2 = r4 then (j1369 s3) else (some (0, s3))))
set_option maxHeartbeats 4000000 in
set_option maxRecDepth 100000 in
theorem okL_17 {C : Cx} {b n : Nat} {xs : Nat → Int32} (X : Fx C cL_law 4 R_law ret 16) (E : LE C b) (Y : LX C b n xs) (j1369 : Sg → Option (Int32 × Sg)) (u18 : Int32) (hj1369 : ∀ s : Sg, GF C evI 1369 [some (.ref b), some (.ref (C.w.ad 0)), some (.ref (C.w.ad 102)), some (.int u18)] [] s (j1369 s)) (s0 : Sg) : GF C evI 753 [some (.ref b), some (.ref (C.w.ad 0)), some (.ref (C.w.ad 102)), some (.int u18)] [] s0 (fL_17 j1369 xs n u18 s0) := by
  unfold fL_17
  refine g_aload_n X dL_law_753 rfl ?_
  refine g_aload_n X dL_law_754 rfl ?_
  refine g_iload_n X dL_law_755 rfl ?_
  refine g_iconst X 1 dL_law_756 (by decide) ?_
  refine g_iadd X dL_law_757 ?_
  refine g_sld X Y dL_law_758 ?_
  refine g_virtI X [.int (xs (ix (u18 + 1)))] [] k_0 mm_H_could mv_H_could ml_L_88 (okH_could (xs (ix (u18 + 1))) s0 C.l C.w) rfl (by decide) rfl (Nat.le_of_ble_eq_true rfl) dL_law_759 (fun r2 s1 => ?_)
  refine g_aload_n X dL_law_762 rfl ?_
  refine g_aload_n X dL_law_763 rfl ?_
  refine g_iload_n X dL_law_764 rfl ?_
  refine g_iconst X 1 dL_law_765 (by decide) ?_
  refine g_iadd X dL_law_766 ?_
  refine g_sld X Y dL_law_767 ?_
  refine g_virtI X [.int (xs (ix (u18 + 1)))] [.int r2] k_102 mm_M_could mv_M_could ml_L_91 (okM_could (xs (ix (u18 + 1))) s1 C.l C.w) rfl (by decide) rfl (Nat.le_of_ble_eq_true rfl) dL_law_768 (fun r4 s3 => ?_)
  refine g_ceq X (tgt := 1369) dL_law_771 (by decide) ?_ ?_
  · exact gf_sub (hj1369 s3) (by simp [lsub])
  · refine g_iconst X 0 dL_law_774 (by decide) ?_
    exact g_lret X E dL_law_775
def fL_18 (j1369 : Sg → Option (Int32 × Sg)) (xs : Nat → Int32) (n : Nat) (u18 : Int32) (s0 : Sg) : Option (Int32 × Sg) := gd (u18 + 1) n (gd (u18 + 2) n (bi (fH_watch (xs (ix (u18 + 1))) (xs (ix (u18 + 2))) s0) fun r2 s1 => gd (u18 + 1) n (gd (u18 + 2) n (bi (fM_watch (xs (ix (u18 + 1))) (xs (ix (u18 + 2))) s1) fun r4 s3 => if r2 = r4 then (j1369 s3) else (some (0, s3))))))
set_option maxHeartbeats 4000000 in
set_option maxRecDepth 100000 in
theorem okL_18 {C : Cx} {b n : Nat} {xs : Nat → Int32} (X : Fx C cL_law 4 R_law ret 16) (E : LE C b) (Y : LX C b n xs) (j1369 : Sg → Option (Int32 × Sg)) (u18 : Int32) (hj1369 : ∀ s : Sg, GF C evI 1369 [some (.ref b), some (.ref (C.w.ad 0)), some (.ref (C.w.ad 102)), some (.int u18)] [] s (j1369 s)) (s0 : Sg) : GF C evI 776 [some (.ref b), some (.ref (C.w.ad 0)), some (.ref (C.w.ad 102)), some (.int u18)] [] s0 (fL_18 j1369 xs n u18 s0) := by
  unfold fL_18
  refine g_aload_n X dL_law_776 rfl ?_
  refine g_aload_n X dL_law_777 rfl ?_
  refine g_iload_n X dL_law_778 rfl ?_
  refine g_iconst X 1 dL_law_779 (by decide) ?_
  refine g_iadd X dL_law_780 ?_
  refine g_sld X Y dL_law_781 ?_
  refine g_aload_n X dL_law_782 rfl ?_
  refine g_iload_n X dL_law_783 rfl ?_
  refine g_iconst X 2 dL_law_784 (by decide) ?_
  refine g_iadd X dL_law_785 ?_
  refine g_sld X Y dL_law_786 ?_
  refine g_virtI X [.int (xs (ix (u18 + 1))), .int (xs (ix (u18 + 2)))] [] k_0 mm_H_watch mv_H_watch ml_L_92 (okH_watch (xs (ix (u18 + 1))) (xs (ix (u18 + 2))) s0 C.l C.w) rfl (by decide) rfl (Nat.le_of_ble_eq_true rfl) dL_law_787 (fun r2 s1 => ?_)
  refine g_aload_n X dL_law_790 rfl ?_
  refine g_aload_n X dL_law_791 rfl ?_
  refine g_iload_n X dL_law_792 rfl ?_
  refine g_iconst X 1 dL_law_793 (by decide) ?_
  refine g_iadd X dL_law_794 ?_
  refine g_sld X Y dL_law_795 ?_
  refine g_aload_n X dL_law_796 rfl ?_
  refine g_iload_n X dL_law_797 rfl ?_
  refine g_iconst X 2 dL_law_798 (by decide) ?_
  refine g_iadd X dL_law_799 ?_
  refine g_sld X Y dL_law_800 ?_
  refine g_virtI X [.int (xs (ix (u18 + 1))), .int (xs (ix (u18 + 2)))] [.int r2] k_102 mm_M_watch mv_M_watch ml_L_95 (okM_watch (xs (ix (u18 + 1))) (xs (ix (u18 + 2))) s1 C.l C.w) rfl (by decide) rfl (Nat.le_of_ble_eq_true rfl) dL_law_801 (fun r4 s3 => ?_)
  refine g_ceq X (tgt := 1369) dL_law_804 (by decide) ?_ ?_
  · exact gf_sub (hj1369 s3) (by simp [lsub])
  · refine g_iconst X 0 dL_law_807 (by decide) ?_
    exact g_lret X E dL_law_808
def fL_19 (j1369 : Sg → Option (Int32 × Sg)) (xs : Nat → Int32) (n : Nat) (u18 : Int32) (s0 : Sg) : Option (Int32 × Sg) := gd (u18 + 1) n (gd (u18 + 2) n (bi (fH_guard (xs (ix (u18 + 1))) (xs (ix (u18 + 2))) s0) fun r2 s1 => gd (u18 + 1) n (gd (u18 + 2) n (bi (fM_guard (xs (ix (u18 + 1))) (xs (ix (u18 + 2))) s1) fun r4 s3 => if r2 = r4 then (j1369 s3) else (some (0, s3))))))
set_option maxHeartbeats 4000000 in
set_option maxRecDepth 100000 in
theorem okL_19 {C : Cx} {b n : Nat} {xs : Nat → Int32} (X : Fx C cL_law 4 R_law ret 16) (E : LE C b) (Y : LX C b n xs) (j1369 : Sg → Option (Int32 × Sg)) (u18 : Int32) (hj1369 : ∀ s : Sg, GF C evI 1369 [some (.ref b), some (.ref (C.w.ad 0)), some (.ref (C.w.ad 102)), some (.int u18)] [] s (j1369 s)) (s0 : Sg) : GF C evI 809 [some (.ref b), some (.ref (C.w.ad 0)), some (.ref (C.w.ad 102)), some (.int u18)] [] s0 (fL_19 j1369 xs n u18 s0) := by
  unfold fL_19
  refine g_aload_n X dL_law_809 rfl ?_
  refine g_aload_n X dL_law_810 rfl ?_
  refine g_iload_n X dL_law_811 rfl ?_
  refine g_iconst X 1 dL_law_812 (by decide) ?_
  refine g_iadd X dL_law_813 ?_
  refine g_sld X Y dL_law_814 ?_
  refine g_aload_n X dL_law_815 rfl ?_
  refine g_iload_n X dL_law_816 rfl ?_
  refine g_iconst X 2 dL_law_817 (by decide) ?_
  refine g_iadd X dL_law_818 ?_
  refine g_sld X Y dL_law_819 ?_
  refine g_virtI X [.int (xs (ix (u18 + 1))), .int (xs (ix (u18 + 2)))] [] k_0 mm_H_guard mv_H_guard ml_L_96 (okH_guard (xs (ix (u18 + 1))) (xs (ix (u18 + 2))) s0 C.l C.w) rfl (by decide) rfl (Nat.le_of_ble_eq_true rfl) dL_law_820 (fun r2 s1 => ?_)
  refine g_aload_n X dL_law_823 rfl ?_
  refine g_aload_n X dL_law_824 rfl ?_
  refine g_iload_n X dL_law_825 rfl ?_
  refine g_iconst X 1 dL_law_826 (by decide) ?_
  refine g_iadd X dL_law_827 ?_
  refine g_sld X Y dL_law_828 ?_
  refine g_aload_n X dL_law_829 rfl ?_
  refine g_iload_n X dL_law_830 rfl ?_
  refine g_iconst X 2 dL_law_831 (by decide) ?_
  refine g_iadd X dL_law_832 ?_
  refine g_sld X Y dL_law_833 ?_
  refine g_virtI X [.int (xs (ix (u18 + 1))), .int (xs (ix (u18 + 2)))] [.int r2] k_102 mm_M_guard mv_M_guard ml_L_99 (okM_guard (xs (ix (u18 + 1))) (xs (ix (u18 + 2))) s1 C.l C.w) rfl (by decide) rfl (Nat.le_of_ble_eq_true rfl) dL_law_834 (fun r4 s3 => ?_)
  refine g_ceq X (tgt := 1369) dL_law_837 (by decide) ?_ ?_
  · exact gf_sub (hj1369 s3) (by simp [lsub])
  · refine g_iconst X 0 dL_law_840 (by decide) ?_
    exact g_lret X E dL_law_841
def fL_20 (j1369 : Sg → Option (Int32 × Sg)) (xs : Nat → Int32) (n : Nat) (u18 : Int32) (s0 : Sg) : Option (Int32 × Sg) := gd (u18 + 1) n (gd (u18 + 2) n (gd (u18 + 3) n (bi (fH_step (xs (ix (u18 + 1))) (xs (ix (u18 + 2))) (xs (ix (u18 + 3))) s0) fun r2 s1 => gd (u18 + 1) n (gd (u18 + 2) n (gd (u18 + 3) n (bi (fM_step (xs (ix (u18 + 1))) (xs (ix (u18 + 2))) (xs (ix (u18 + 3))) s1) fun r4 s3 => if r2 = r4 then (j1369 s3) else (some (0, s3))))))))
set_option maxHeartbeats 4000000 in
set_option maxRecDepth 100000 in
theorem okL_20 {C : Cx} {b n : Nat} {xs : Nat → Int32} (X : Fx C cL_law 4 R_law ret 16) (E : LE C b) (Y : LX C b n xs) (j1369 : Sg → Option (Int32 × Sg)) (u18 : Int32) (hj1369 : ∀ s : Sg, GF C evI 1369 [some (.ref b), some (.ref (C.w.ad 0)), some (.ref (C.w.ad 102)), some (.int u18)] [] s (j1369 s)) (s0 : Sg) : GF C evI 842 [some (.ref b), some (.ref (C.w.ad 0)), some (.ref (C.w.ad 102)), some (.int u18)] [] s0 (fL_20 j1369 xs n u18 s0) := by
  unfold fL_20
  refine g_aload_n X dL_law_842 rfl ?_
  refine g_aload_n X dL_law_843 rfl ?_
  refine g_iload_n X dL_law_844 rfl ?_
  refine g_iconst X 1 dL_law_845 (by decide) ?_
  refine g_iadd X dL_law_846 ?_
  refine g_sld X Y dL_law_847 ?_
  refine g_aload_n X dL_law_848 rfl ?_
  refine g_iload_n X dL_law_849 rfl ?_
  refine g_iconst X 2 dL_law_850 (by decide) ?_
  refine g_iadd X dL_law_851 ?_
  refine g_sld X Y dL_law_852 ?_
  refine g_aload_n X dL_law_853 rfl ?_
  refine g_iload_n X dL_law_854 rfl ?_
  refine g_iconst X 3 dL_law_855 (by decide) ?_
  refine g_iadd X dL_law_856 ?_
  refine g_sld X Y dL_law_857 ?_
  refine g_virtI X [.int (xs (ix (u18 + 1))), .int (xs (ix (u18 + 2))), .int (xs (ix (u18 + 3)))] [] k_0 mm_H_step mv_H_step ml_L_100 (okH_step (xs (ix (u18 + 1))) (xs (ix (u18 + 2))) (xs (ix (u18 + 3))) s0 C.l C.w) rfl (by decide) rfl (Nat.le_of_ble_eq_true rfl) dL_law_858 (fun r2 s1 => ?_)
  refine g_aload_n X dL_law_861 rfl ?_
  refine g_aload_n X dL_law_862 rfl ?_
  refine g_iload_n X dL_law_863 rfl ?_
  refine g_iconst X 1 dL_law_864 (by decide) ?_
  refine g_iadd X dL_law_865 ?_
  refine g_sld X Y dL_law_866 ?_
  refine g_aload_n X dL_law_867 rfl ?_
  refine g_iload_n X dL_law_868 rfl ?_
  refine g_iconst X 2 dL_law_869 (by decide) ?_
  refine g_iadd X dL_law_870 ?_
  refine g_sld X Y dL_law_871 ?_
  refine g_aload_n X dL_law_872 rfl ?_
  refine g_iload_n X dL_law_873 rfl ?_
  refine g_iconst X 3 dL_law_874 (by decide) ?_
  refine g_iadd X dL_law_875 ?_
  refine g_sld X Y dL_law_876 ?_
  refine g_virtI X [.int (xs (ix (u18 + 1))), .int (xs (ix (u18 + 2))), .int (xs (ix (u18 + 3)))] [.int r2] k_102 mm_M_step mv_M_step ml_L_103 (okM_step (xs (ix (u18 + 1))) (xs (ix (u18 + 2))) (xs (ix (u18 + 3))) s1 C.l C.w) rfl (by decide) rfl (Nat.le_of_ble_eq_true rfl) dL_law_877 (fun r4 s3 => ?_)
  refine g_ceq X (tgt := 1369) dL_law_880 (by decide) ?_ ?_
  · exact gf_sub (hj1369 s3) (by simp [lsub])
  · refine g_iconst X 0 dL_law_883 (by decide) ?_
    exact g_lret X E dL_law_884
def fL_21 (j1369 : Sg → Option (Int32 × Sg)) (xs : Nat → Int32) (n : Nat) (u18 : Int32) (s0 : Sg) : Option (Int32 × Sg) := gd (u18 + 1) n (gd (u18 + 2) n (gd (u18 + 3) n (bi (fH_down (xs (ix (u18 + 1))) (xs (ix (u18 + 2))) (xs (ix (u18 + 3))) s0) fun r2 s1 => gd (u18 + 1) n (gd (u18 + 2) n (gd (u18 + 3) n (bi (fM_down (xs (ix (u18 + 1))) (xs (ix (u18 + 2))) (xs (ix (u18 + 3))) s1) fun r4 s3 => if r2 = r4 then (j1369 s3) else (some (0, s3))))))))
set_option maxHeartbeats 4000000 in
set_option maxRecDepth 100000 in
theorem okL_21 {C : Cx} {b n : Nat} {xs : Nat → Int32} (X : Fx C cL_law 4 R_law ret 16) (E : LE C b) (Y : LX C b n xs) (j1369 : Sg → Option (Int32 × Sg)) (u18 : Int32) (hj1369 : ∀ s : Sg, GF C evI 1369 [some (.ref b), some (.ref (C.w.ad 0)), some (.ref (C.w.ad 102)), some (.int u18)] [] s (j1369 s)) (s0 : Sg) : GF C evI 885 [some (.ref b), some (.ref (C.w.ad 0)), some (.ref (C.w.ad 102)), some (.int u18)] [] s0 (fL_21 j1369 xs n u18 s0) := by
  unfold fL_21
  refine g_aload_n X dL_law_885 rfl ?_
  refine g_aload_n X dL_law_886 rfl ?_
  refine g_iload_n X dL_law_887 rfl ?_
  refine g_iconst X 1 dL_law_888 (by decide) ?_
  refine g_iadd X dL_law_889 ?_
  refine g_sld X Y dL_law_890 ?_
  refine g_aload_n X dL_law_891 rfl ?_
  refine g_iload_n X dL_law_892 rfl ?_
  refine g_iconst X 2 dL_law_893 (by decide) ?_
  refine g_iadd X dL_law_894 ?_
  refine g_sld X Y dL_law_895 ?_
  refine g_aload_n X dL_law_896 rfl ?_
  refine g_iload_n X dL_law_897 rfl ?_
  refine g_iconst X 3 dL_law_898 (by decide) ?_
  refine g_iadd X dL_law_899 ?_
  refine g_sld X Y dL_law_900 ?_
  refine g_virtI X [.int (xs (ix (u18 + 1))), .int (xs (ix (u18 + 2))), .int (xs (ix (u18 + 3)))] [] k_0 mm_H_down mv_H_down ml_L_104 (okH_down (xs (ix (u18 + 1))) (xs (ix (u18 + 2))) (xs (ix (u18 + 3))) s0 C.l C.w) rfl (by decide) rfl (Nat.le_of_ble_eq_true rfl) dL_law_901 (fun r2 s1 => ?_)
  refine g_aload_n X dL_law_904 rfl ?_
  refine g_aload_n X dL_law_905 rfl ?_
  refine g_iload_n X dL_law_906 rfl ?_
  refine g_iconst X 1 dL_law_907 (by decide) ?_
  refine g_iadd X dL_law_908 ?_
  refine g_sld X Y dL_law_909 ?_
  refine g_aload_n X dL_law_910 rfl ?_
  refine g_iload_n X dL_law_911 rfl ?_
  refine g_iconst X 2 dL_law_912 (by decide) ?_
  refine g_iadd X dL_law_913 ?_
  refine g_sld X Y dL_law_914 ?_
  refine g_aload_n X dL_law_915 rfl ?_
  refine g_iload_n X dL_law_916 rfl ?_
  refine g_iconst X 3 dL_law_917 (by decide) ?_
  refine g_iadd X dL_law_918 ?_
  refine g_sld X Y dL_law_919 ?_
  refine g_virtI X [.int (xs (ix (u18 + 1))), .int (xs (ix (u18 + 2))), .int (xs (ix (u18 + 3)))] [.int r2] k_102 mm_M_down mv_M_down ml_L_107 (okM_down (xs (ix (u18 + 1))) (xs (ix (u18 + 2))) (xs (ix (u18 + 3))) s1 C.l C.w) rfl (by decide) rfl (Nat.le_of_ble_eq_true rfl) dL_law_920 (fun r4 s3 => ?_)
  refine g_ceq X (tgt := 1369) dL_law_923 (by decide) ?_ ?_
  · exact gf_sub (hj1369 s3) (by simp [lsub])
  · refine g_iconst X 0 dL_law_926 (by decide) ?_
    exact g_lret X E dL_law_927
def fL_22 (j1369 : Sg → Option (Int32 × Sg)) (xs : Nat → Int32) (n : Nat) (u18 : Int32) (s0 : Sg) : Option (Int32 × Sg) := gd (u18 + 1) n (gd (u18 + 2) n (gd (u18 + 3) n (bi (fH_spell (xs (ix (u18 + 1))) (xs (ix (u18 + 2))) (xs (ix (u18 + 3))) s0) fun r2 s1 => gd (u18 + 1) n (gd (u18 + 2) n (gd (u18 + 3) n (bi (fM_spell (xs (ix (u18 + 1))) (xs (ix (u18 + 2))) (xs (ix (u18 + 3))) s1) fun r4 s3 => if r2 = r4 then (j1369 s3) else (some (0, s3))))))))
set_option maxHeartbeats 4000000 in
set_option maxRecDepth 100000 in
theorem okL_22 {C : Cx} {b n : Nat} {xs : Nat → Int32} (X : Fx C cL_law 4 R_law ret 16) (E : LE C b) (Y : LX C b n xs) (j1369 : Sg → Option (Int32 × Sg)) (u18 : Int32) (hj1369 : ∀ s : Sg, GF C evI 1369 [some (.ref b), some (.ref (C.w.ad 0)), some (.ref (C.w.ad 102)), some (.int u18)] [] s (j1369 s)) (s0 : Sg) : GF C evI 928 [some (.ref b), some (.ref (C.w.ad 0)), some (.ref (C.w.ad 102)), some (.int u18)] [] s0 (fL_22 j1369 xs n u18 s0) := by
  unfold fL_22
  refine g_aload_n X dL_law_928 rfl ?_
  refine g_aload_n X dL_law_929 rfl ?_
  refine g_iload_n X dL_law_930 rfl ?_
  refine g_iconst X 1 dL_law_931 (by decide) ?_
  refine g_iadd X dL_law_932 ?_
  refine g_sld X Y dL_law_933 ?_
  refine g_aload_n X dL_law_934 rfl ?_
  refine g_iload_n X dL_law_935 rfl ?_
  refine g_iconst X 2 dL_law_936 (by decide) ?_
  refine g_iadd X dL_law_937 ?_
  refine g_sld X Y dL_law_938 ?_
  refine g_aload_n X dL_law_939 rfl ?_
  refine g_iload_n X dL_law_940 rfl ?_
  refine g_iconst X 3 dL_law_941 (by decide) ?_
  refine g_iadd X dL_law_942 ?_
  refine g_sld X Y dL_law_943 ?_
  refine g_virtI X [.int (xs (ix (u18 + 1))), .int (xs (ix (u18 + 2))), .int (xs (ix (u18 + 3)))] [] k_0 mm_H_spell mv_H_spell ml_L_108 (okH_spell (xs (ix (u18 + 1))) (xs (ix (u18 + 2))) (xs (ix (u18 + 3))) s0 C.l C.w) rfl (by decide) rfl (Nat.le_of_ble_eq_true rfl) dL_law_944 (fun r2 s1 => ?_)
  refine g_aload_n X dL_law_947 rfl ?_
  refine g_aload_n X dL_law_948 rfl ?_
  refine g_iload_n X dL_law_949 rfl ?_
  refine g_iconst X 1 dL_law_950 (by decide) ?_
  refine g_iadd X dL_law_951 ?_
  refine g_sld X Y dL_law_952 ?_
  refine g_aload_n X dL_law_953 rfl ?_
  refine g_iload_n X dL_law_954 rfl ?_
  refine g_iconst X 2 dL_law_955 (by decide) ?_
  refine g_iadd X dL_law_956 ?_
  refine g_sld X Y dL_law_957 ?_
  refine g_aload_n X dL_law_958 rfl ?_
  refine g_iload_n X dL_law_959 rfl ?_
  refine g_iconst X 3 dL_law_960 (by decide) ?_
  refine g_iadd X dL_law_961 ?_
  refine g_sld X Y dL_law_962 ?_
  refine g_virtI X [.int (xs (ix (u18 + 1))), .int (xs (ix (u18 + 2))), .int (xs (ix (u18 + 3)))] [.int r2] k_102 mm_M_spell mv_M_spell ml_L_111 (okM_spell (xs (ix (u18 + 1))) (xs (ix (u18 + 2))) (xs (ix (u18 + 3))) s1 C.l C.w) rfl (by decide) rfl (Nat.le_of_ble_eq_true rfl) dL_law_963 (fun r4 s3 => ?_)
  refine g_ceq X (tgt := 1369) dL_law_966 (by decide) ?_ ?_
  · exact gf_sub (hj1369 s3) (by simp [lsub])
  · refine g_iconst X 0 dL_law_969 (by decide) ?_
    exact g_lret X E dL_law_970
def fL_23 (j1369 : Sg → Option (Int32 × Sg)) (xs : Nat → Int32) (n : Nat) (u18 : Int32) (s0 : Sg) : Option (Int32 × Sg) := gd (u18 + 1) n (gd (u18 + 2) n (bi (fH_over (xs (ix (u18 + 1))) (xs (ix (u18 + 2))) s0) fun r2 s1 => gd (u18 + 1) n (gd (u18 + 2) n (bi (fM_over (xs (ix (u18 + 1))) (xs (ix (u18 + 2))) s1) fun r4 s3 => if r2 = r4 then (j1369 s3) else (some (0, s3))))))
set_option maxHeartbeats 4000000 in
set_option maxRecDepth 100000 in
theorem okL_23 {C : Cx} {b n : Nat} {xs : Nat → Int32} (X : Fx C cL_law 4 R_law ret 16) (E : LE C b) (Y : LX C b n xs) (j1369 : Sg → Option (Int32 × Sg)) (u18 : Int32) (hj1369 : ∀ s : Sg, GF C evI 1369 [some (.ref b), some (.ref (C.w.ad 0)), some (.ref (C.w.ad 102)), some (.int u18)] [] s (j1369 s)) (s0 : Sg) : GF C evI 971 [some (.ref b), some (.ref (C.w.ad 0)), some (.ref (C.w.ad 102)), some (.int u18)] [] s0 (fL_23 j1369 xs n u18 s0) := by
  unfold fL_23
  refine g_aload_n X dL_law_971 rfl ?_
  refine g_aload_n X dL_law_972 rfl ?_
  refine g_iload_n X dL_law_973 rfl ?_
  refine g_iconst X 1 dL_law_974 (by decide) ?_
  refine g_iadd X dL_law_975 ?_
  refine g_sld X Y dL_law_976 ?_
  refine g_aload_n X dL_law_977 rfl ?_
  refine g_iload_n X dL_law_978 rfl ?_
  refine g_iconst X 2 dL_law_979 (by decide) ?_
  refine g_iadd X dL_law_980 ?_
  refine g_sld X Y dL_law_981 ?_
  refine g_virtI X [.int (xs (ix (u18 + 1))), .int (xs (ix (u18 + 2)))] [] k_0 mm_H_over mv_H_over ml_L_112 (okH_over (xs (ix (u18 + 1))) (xs (ix (u18 + 2))) s0 C.l C.w) rfl (by decide) rfl (Nat.le_of_ble_eq_true rfl) dL_law_982 (fun r2 s1 => ?_)
  refine g_aload_n X dL_law_985 rfl ?_
  refine g_aload_n X dL_law_986 rfl ?_
  refine g_iload_n X dL_law_987 rfl ?_
  refine g_iconst X 1 dL_law_988 (by decide) ?_
  refine g_iadd X dL_law_989 ?_
  refine g_sld X Y dL_law_990 ?_
  refine g_aload_n X dL_law_991 rfl ?_
  refine g_iload_n X dL_law_992 rfl ?_
  refine g_iconst X 2 dL_law_993 (by decide) ?_
  refine g_iadd X dL_law_994 ?_
  refine g_sld X Y dL_law_995 ?_
  refine g_virtI X [.int (xs (ix (u18 + 1))), .int (xs (ix (u18 + 2)))] [.int r2] k_102 mm_M_over mv_M_over ml_L_115 (okM_over (xs (ix (u18 + 1))) (xs (ix (u18 + 2))) s1 C.l C.w) rfl (by decide) rfl (Nat.le_of_ble_eq_true rfl) dL_law_996 (fun r4 s3 => ?_)
  refine g_ceq X (tgt := 1369) dL_law_999 (by decide) ?_ ?_
  · exact gf_sub (hj1369 s3) (by simp [lsub])
  · refine g_iconst X 0 dL_law_1002 (by decide) ?_
    exact g_lret X E dL_law_1003
def fL_24 (j1369 : Sg → Option (Int32 × Sg)) (xs : Nat → Int32) (n : Nat) (u18 : Int32) (s0 : Sg) : Option (Int32 × Sg) := gd (u18 + 1) n (gd (u18 + 2) n (bi (fH_speaker (xs (ix (u18 + 1))) (xs (ix (u18 + 2))) s0) fun r2 s1 => gd (u18 + 1) n (gd (u18 + 2) n (bi (fM_speaker (xs (ix (u18 + 1))) (xs (ix (u18 + 2))) s1) fun r4 s3 => if r2 = r4 then (j1369 s3) else (some (0, s3))))))
set_option maxHeartbeats 4000000 in
set_option maxRecDepth 100000 in
theorem okL_24 {C : Cx} {b n : Nat} {xs : Nat → Int32} (X : Fx C cL_law 4 R_law ret 16) (E : LE C b) (Y : LX C b n xs) (j1369 : Sg → Option (Int32 × Sg)) (u18 : Int32) (hj1369 : ∀ s : Sg, GF C evI 1369 [some (.ref b), some (.ref (C.w.ad 0)), some (.ref (C.w.ad 102)), some (.int u18)] [] s (j1369 s)) (s0 : Sg) : GF C evI 1004 [some (.ref b), some (.ref (C.w.ad 0)), some (.ref (C.w.ad 102)), some (.int u18)] [] s0 (fL_24 j1369 xs n u18 s0) := by
  unfold fL_24
  refine g_aload_n X dL_law_1004 rfl ?_
  refine g_aload_n X dL_law_1005 rfl ?_
  refine g_iload_n X dL_law_1006 rfl ?_
  refine g_iconst X 1 dL_law_1007 (by decide) ?_
  refine g_iadd X dL_law_1008 ?_
  refine g_sld X Y dL_law_1009 ?_
  refine g_aload_n X dL_law_1010 rfl ?_
  refine g_iload_n X dL_law_1011 rfl ?_
  refine g_iconst X 2 dL_law_1012 (by decide) ?_
  refine g_iadd X dL_law_1013 ?_
  refine g_sld X Y dL_law_1014 ?_
  refine g_virtI X [.int (xs (ix (u18 + 1))), .int (xs (ix (u18 + 2)))] [] k_0 mm_H_speaker mv_H_speaker ml_L_116 (okH_speaker (xs (ix (u18 + 1))) (xs (ix (u18 + 2))) s0 C.l C.w) rfl (by decide) rfl (Nat.le_of_ble_eq_true rfl) dL_law_1015 (fun r2 s1 => ?_)
  refine g_aload_n X dL_law_1018 rfl ?_
  refine g_aload_n X dL_law_1019 rfl ?_
  refine g_iload_n X dL_law_1020 rfl ?_
  refine g_iconst X 1 dL_law_1021 (by decide) ?_
  refine g_iadd X dL_law_1022 ?_
  refine g_sld X Y dL_law_1023 ?_
  refine g_aload_n X dL_law_1024 rfl ?_
  refine g_iload_n X dL_law_1025 rfl ?_
  refine g_iconst X 2 dL_law_1026 (by decide) ?_
  refine g_iadd X dL_law_1027 ?_
  refine g_sld X Y dL_law_1028 ?_
  refine g_virtI X [.int (xs (ix (u18 + 1))), .int (xs (ix (u18 + 2)))] [.int r2] k_102 mm_M_speaker mv_M_speaker ml_L_119 (okM_speaker (xs (ix (u18 + 1))) (xs (ix (u18 + 2))) s1 C.l C.w) rfl (by decide) rfl (Nat.le_of_ble_eq_true rfl) dL_law_1029 (fun r4 s3 => ?_)
  refine g_ceq X (tgt := 1369) dL_law_1032 (by decide) ?_ ?_
  · exact gf_sub (hj1369 s3) (by simp [lsub])
  · refine g_iconst X 0 dL_law_1035 (by decide) ?_
    exact g_lret X E dL_law_1036
def fL_25 (j1369 : Sg → Option (Int32 × Sg)) (xs : Nat → Int32) (n : Nat) (u18 : Int32) (s0 : Sg) : Option (Int32 × Sg) := gd (u18 + 1) n (bi (fH_council (xs (ix (u18 + 1))) s0) fun r2 s1 => gd (u18 + 1) n (bi (fM_council (xs (ix (u18 + 1))) s1) fun r4 s3 => if r2 = r4 then (j1369 s3) else (some (0, s3))))
set_option maxHeartbeats 4000000 in
set_option maxRecDepth 100000 in
theorem okL_25 {C : Cx} {b n : Nat} {xs : Nat → Int32} (X : Fx C cL_law 4 R_law ret 16) (E : LE C b) (Y : LX C b n xs) (j1369 : Sg → Option (Int32 × Sg)) (u18 : Int32) (hj1369 : ∀ s : Sg, GF C evI 1369 [some (.ref b), some (.ref (C.w.ad 0)), some (.ref (C.w.ad 102)), some (.int u18)] [] s (j1369 s)) (s0 : Sg) : GF C evI 1037 [some (.ref b), some (.ref (C.w.ad 0)), some (.ref (C.w.ad 102)), some (.int u18)] [] s0 (fL_25 j1369 xs n u18 s0) := by
  unfold fL_25
  refine g_aload_n X dL_law_1037 rfl ?_
  refine g_aload_n X dL_law_1038 rfl ?_
  refine g_iload_n X dL_law_1039 rfl ?_
  refine g_iconst X 1 dL_law_1040 (by decide) ?_
  refine g_iadd X dL_law_1041 ?_
  refine g_sld X Y dL_law_1042 ?_
  refine g_virtI X [.int (xs (ix (u18 + 1)))] [] k_0 mm_H_council mv_H_council ml_L_120 (okH_council (xs (ix (u18 + 1))) s0 C.l C.w) rfl (by decide) rfl (Nat.le_of_ble_eq_true rfl) dL_law_1043 (fun r2 s1 => ?_)
  refine g_aload_n X dL_law_1046 rfl ?_
  refine g_aload_n X dL_law_1047 rfl ?_
  refine g_iload_n X dL_law_1048 rfl ?_
  refine g_iconst X 1 dL_law_1049 (by decide) ?_
  refine g_iadd X dL_law_1050 ?_
  refine g_sld X Y dL_law_1051 ?_
  refine g_virtI X [.int (xs (ix (u18 + 1)))] [.int r2] k_102 mm_M_council mv_M_council ml_L_123 (okM_council (xs (ix (u18 + 1))) s1 C.l C.w) rfl (by decide) rfl (Nat.le_of_ble_eq_true rfl) dL_law_1052 (fun r4 s3 => ?_)
  refine g_ceq X (tgt := 1369) dL_law_1055 (by decide) ?_ ?_
  · exact gf_sub (hj1369 s3) (by simp [lsub])
  · refine g_iconst X 0 dL_law_1058 (by decide) ?_
    exact g_lret X E dL_law_1059
def fL_26 (j1369 : Sg → Option (Int32 × Sg)) (xs : Nat → Int32) (n : Nat) (u18 : Int32) (s0 : Sg) : Option (Int32 × Sg) := gd (u18 + 1) n (gd (u18 + 2) n (gd (u18 + 3) n (bi (fH_rule (xs (ix (u18 + 1))) (xs (ix (u18 + 2))) (xs (ix (u18 + 3))) s0) fun r2 s1 => gd (u18 + 1) n (gd (u18 + 2) n (gd (u18 + 3) n (bi (fM_rule (xs (ix (u18 + 1))) (xs (ix (u18 + 2))) (xs (ix (u18 + 3))) s1) fun r4 s3 => if r2 = r4 then (j1369 s3) else (some (0, s3))))))))
set_option maxHeartbeats 4000000 in
set_option maxRecDepth 100000 in
theorem okL_26 {C : Cx} {b n : Nat} {xs : Nat → Int32} (X : Fx C cL_law 4 R_law ret 16) (E : LE C b) (Y : LX C b n xs) (j1369 : Sg → Option (Int32 × Sg)) (u18 : Int32) (hj1369 : ∀ s : Sg, GF C evI 1369 [some (.ref b), some (.ref (C.w.ad 0)), some (.ref (C.w.ad 102)), some (.int u18)] [] s (j1369 s)) (s0 : Sg) : GF C evI 1060 [some (.ref b), some (.ref (C.w.ad 0)), some (.ref (C.w.ad 102)), some (.int u18)] [] s0 (fL_26 j1369 xs n u18 s0) := by
  unfold fL_26
  refine g_aload_n X dL_law_1060 rfl ?_
  refine g_aload_n X dL_law_1061 rfl ?_
  refine g_iload_n X dL_law_1062 rfl ?_
  refine g_iconst X 1 dL_law_1063 (by decide) ?_
  refine g_iadd X dL_law_1064 ?_
  refine g_sld X Y dL_law_1065 ?_
  refine g_aload_n X dL_law_1066 rfl ?_
  refine g_iload_n X dL_law_1067 rfl ?_
  refine g_iconst X 2 dL_law_1068 (by decide) ?_
  refine g_iadd X dL_law_1069 ?_
  refine g_sld X Y dL_law_1070 ?_
  refine g_aload_n X dL_law_1071 rfl ?_
  refine g_iload_n X dL_law_1072 rfl ?_
  refine g_iconst X 3 dL_law_1073 (by decide) ?_
  refine g_iadd X dL_law_1074 ?_
  refine g_sld X Y dL_law_1075 ?_
  refine g_virtI X [.int (xs (ix (u18 + 1))), .int (xs (ix (u18 + 2))), .int (xs (ix (u18 + 3)))] [] k_0 mm_H_rule mv_H_rule ml_L_124 (okH_rule (xs (ix (u18 + 1))) (xs (ix (u18 + 2))) (xs (ix (u18 + 3))) s0 C.l C.w) rfl (by decide) rfl (Nat.le_of_ble_eq_true rfl) dL_law_1076 (fun r2 s1 => ?_)
  refine g_aload_n X dL_law_1079 rfl ?_
  refine g_aload_n X dL_law_1080 rfl ?_
  refine g_iload_n X dL_law_1081 rfl ?_
  refine g_iconst X 1 dL_law_1082 (by decide) ?_
  refine g_iadd X dL_law_1083 ?_
  refine g_sld X Y dL_law_1084 ?_
  refine g_aload_n X dL_law_1085 rfl ?_
  refine g_iload_n X dL_law_1086 rfl ?_
  refine g_iconst X 2 dL_law_1087 (by decide) ?_
  refine g_iadd X dL_law_1088 ?_
  refine g_sld X Y dL_law_1089 ?_
  refine g_aload_n X dL_law_1090 rfl ?_
  refine g_iload_n X dL_law_1091 rfl ?_
  refine g_iconst X 3 dL_law_1092 (by decide) ?_
  refine g_iadd X dL_law_1093 ?_
  refine g_sld X Y dL_law_1094 ?_
  refine g_virtI X [.int (xs (ix (u18 + 1))), .int (xs (ix (u18 + 2))), .int (xs (ix (u18 + 3)))] [.int r2] k_102 mm_M_rule mv_M_rule ml_L_127 (okM_rule (xs (ix (u18 + 1))) (xs (ix (u18 + 2))) (xs (ix (u18 + 3))) s1 C.l C.w) rfl (by decide) rfl (Nat.le_of_ble_eq_true rfl) dL_law_1095 (fun r4 s3 => ?_)
  refine g_ceq X (tgt := 1369) dL_law_1098 (by decide) ?_ ?_
  · exact gf_sub (hj1369 s3) (by simp [lsub])
  · refine g_iconst X 0 dL_law_1101 (by decide) ?_
    exact g_lret X E dL_law_1102
def fL_27 (j1369 : Sg → Option (Int32 × Sg)) (xs : Nat → Int32) (n : Nat) (u18 : Int32) (s0 : Sg) : Option (Int32 × Sg) := gd (u18 + 1) n (gd (u18 + 2) n (bi (fH_thing (xs (ix (u18 + 1))) (xs (ix (u18 + 2))) s0) fun r2 s1 => gd (u18 + 1) n (gd (u18 + 2) n (bi (fM_thing (xs (ix (u18 + 1))) (xs (ix (u18 + 2))) s1) fun r4 s3 => if r2 = r4 then (j1369 s3) else (some (0, s3))))))
set_option maxHeartbeats 4000000 in
set_option maxRecDepth 100000 in
theorem okL_27 {C : Cx} {b n : Nat} {xs : Nat → Int32} (X : Fx C cL_law 4 R_law ret 16) (E : LE C b) (Y : LX C b n xs) (j1369 : Sg → Option (Int32 × Sg)) (u18 : Int32) (hj1369 : ∀ s : Sg, GF C evI 1369 [some (.ref b), some (.ref (C.w.ad 0)), some (.ref (C.w.ad 102)), some (.int u18)] [] s (j1369 s)) (s0 : Sg) : GF C evI 1103 [some (.ref b), some (.ref (C.w.ad 0)), some (.ref (C.w.ad 102)), some (.int u18)] [] s0 (fL_27 j1369 xs n u18 s0) := by
  unfold fL_27
  refine g_aload_n X dL_law_1103 rfl ?_
  refine g_aload_n X dL_law_1104 rfl ?_
  refine g_iload_n X dL_law_1105 rfl ?_
  refine g_iconst X 1 dL_law_1106 (by decide) ?_
  refine g_iadd X dL_law_1107 ?_
  refine g_sld X Y dL_law_1108 ?_
  refine g_aload_n X dL_law_1109 rfl ?_
  refine g_iload_n X dL_law_1110 rfl ?_
  refine g_iconst X 2 dL_law_1111 (by decide) ?_
  refine g_iadd X dL_law_1112 ?_
  refine g_sld X Y dL_law_1113 ?_
  refine g_virtI X [.int (xs (ix (u18 + 1))), .int (xs (ix (u18 + 2)))] [] k_0 mm_H_thing mv_H_thing ml_L_128 (okH_thing (xs (ix (u18 + 1))) (xs (ix (u18 + 2))) s0 C.l C.w) rfl (by decide) rfl (Nat.le_of_ble_eq_true rfl) dL_law_1114 (fun r2 s1 => ?_)
  refine g_aload_n X dL_law_1117 rfl ?_
  refine g_aload_n X dL_law_1118 rfl ?_
  refine g_iload_n X dL_law_1119 rfl ?_
  refine g_iconst X 1 dL_law_1120 (by decide) ?_
  refine g_iadd X dL_law_1121 ?_
  refine g_sld X Y dL_law_1122 ?_
  refine g_aload_n X dL_law_1123 rfl ?_
  refine g_iload_n X dL_law_1124 rfl ?_
  refine g_iconst X 2 dL_law_1125 (by decide) ?_
  refine g_iadd X dL_law_1126 ?_
  refine g_sld X Y dL_law_1127 ?_
  refine g_virtI X [.int (xs (ix (u18 + 1))), .int (xs (ix (u18 + 2)))] [.int r2] k_102 mm_M_thing mv_M_thing ml_L_131 (okM_thing (xs (ix (u18 + 1))) (xs (ix (u18 + 2))) s1 C.l C.w) rfl (by decide) rfl (Nat.le_of_ble_eq_true rfl) dL_law_1128 (fun r4 s3 => ?_)
  refine g_ceq X (tgt := 1369) dL_law_1131 (by decide) ?_ ?_
  · exact gf_sub (hj1369 s3) (by simp [lsub])
  · refine g_iconst X 0 dL_law_1134 (by decide) ?_
    exact g_lret X E dL_law_1135
def fL_28 (j1369 : Sg → Option (Int32 × Sg)) (xs : Nat → Int32) (n : Nat) (u18 : Int32) (s0 : Sg) : Option (Int32 × Sg) := gd (u18 + 1) n (bi (fH_price (xs (ix (u18 + 1))) s0) fun r2 s1 => gd (u18 + 1) n (bi (fM_price (xs (ix (u18 + 1))) s1) fun r4 s3 => if r2 = r4 then (j1369 s3) else (some (0, s3))))
set_option maxHeartbeats 4000000 in
set_option maxRecDepth 100000 in
theorem okL_28 {C : Cx} {b n : Nat} {xs : Nat → Int32} (X : Fx C cL_law 4 R_law ret 16) (E : LE C b) (Y : LX C b n xs) (j1369 : Sg → Option (Int32 × Sg)) (u18 : Int32) (hj1369 : ∀ s : Sg, GF C evI 1369 [some (.ref b), some (.ref (C.w.ad 0)), some (.ref (C.w.ad 102)), some (.int u18)] [] s (j1369 s)) (s0 : Sg) : GF C evI 1136 [some (.ref b), some (.ref (C.w.ad 0)), some (.ref (C.w.ad 102)), some (.int u18)] [] s0 (fL_28 j1369 xs n u18 s0) := by
  unfold fL_28
  refine g_aload_n X dL_law_1136 rfl ?_
  refine g_aload_n X dL_law_1137 rfl ?_
  refine g_iload_n X dL_law_1138 rfl ?_
  refine g_iconst X 1 dL_law_1139 (by decide) ?_
  refine g_iadd X dL_law_1140 ?_
  refine g_sld X Y dL_law_1141 ?_
  refine g_virtI X [.int (xs (ix (u18 + 1)))] [] k_0 mm_H_price mv_H_price ml_L_132 (okH_price (xs (ix (u18 + 1))) s0 C.l C.w) rfl (by decide) rfl (Nat.le_of_ble_eq_true rfl) dL_law_1142 (fun r2 s1 => ?_)
  refine g_aload_n X dL_law_1145 rfl ?_
  refine g_aload_n X dL_law_1146 rfl ?_
  refine g_iload_n X dL_law_1147 rfl ?_
  refine g_iconst X 1 dL_law_1148 (by decide) ?_
  refine g_iadd X dL_law_1149 ?_
  refine g_sld X Y dL_law_1150 ?_
  refine g_virtI X [.int (xs (ix (u18 + 1)))] [.int r2] k_102 mm_M_price mv_M_price ml_L_135 (okM_price (xs (ix (u18 + 1))) s1 C.l C.w) rfl (by decide) rfl (Nat.le_of_ble_eq_true rfl) dL_law_1151 (fun r4 s3 => ?_)
  refine g_ceq X (tgt := 1369) dL_law_1154 (by decide) ?_ ?_
  · exact gf_sub (hj1369 s3) (by simp [lsub])
  · refine g_iconst X 0 dL_law_1157 (by decide) ?_
    exact g_lret X E dL_law_1158
def fL_29 (j1369 : Sg → Option (Int32 × Sg)) (xs : Nat → Int32) (n : Nat) (u18 : Int32) (s0 : Sg) : Option (Int32 × Sg) := gd (u18 + 1) n (gd (u18 + 2) n (bi (fH_prices (xs (ix (u18 + 1))) (xs (ix (u18 + 2))) s0) fun r2 s1 => gd (u18 + 1) n (gd (u18 + 2) n (bi (fM_prices (xs (ix (u18 + 1))) (xs (ix (u18 + 2))) s1) fun r4 s3 => if r2 = r4 then (j1369 s3) else (some (0, s3))))))
set_option maxHeartbeats 4000000 in
set_option maxRecDepth 100000 in
theorem okL_29 {C : Cx} {b n : Nat} {xs : Nat → Int32} (X : Fx C cL_law 4 R_law ret 16) (E : LE C b) (Y : LX C b n xs) (j1369 : Sg → Option (Int32 × Sg)) (u18 : Int32) (hj1369 : ∀ s : Sg, GF C evI 1369 [some (.ref b), some (.ref (C.w.ad 0)), some (.ref (C.w.ad 102)), some (.int u18)] [] s (j1369 s)) (s0 : Sg) : GF C evI 1159 [some (.ref b), some (.ref (C.w.ad 0)), some (.ref (C.w.ad 102)), some (.int u18)] [] s0 (fL_29 j1369 xs n u18 s0) := by
  unfold fL_29
  refine g_aload_n X dL_law_1159 rfl ?_
  refine g_aload_n X dL_law_1160 rfl ?_
  refine g_iload_n X dL_law_1161 rfl ?_
  refine g_iconst X 1 dL_law_1162 (by decide) ?_
  refine g_iadd X dL_law_1163 ?_
  refine g_sld X Y dL_law_1164 ?_
  refine g_aload_n X dL_law_1165 rfl ?_
  refine g_iload_n X dL_law_1166 rfl ?_
  refine g_iconst X 2 dL_law_1167 (by decide) ?_
  refine g_iadd X dL_law_1168 ?_
  refine g_sld X Y dL_law_1169 ?_
  refine g_virtI X [.int (xs (ix (u18 + 1))), .int (xs (ix (u18 + 2)))] [] k_0 mm_H_prices mv_H_prices ml_L_136 (okH_prices (xs (ix (u18 + 1))) (xs (ix (u18 + 2))) s0 C.l C.w) rfl (by decide) rfl (Nat.le_of_ble_eq_true rfl) dL_law_1170 (fun r2 s1 => ?_)
  refine g_aload_n X dL_law_1173 rfl ?_
  refine g_aload_n X dL_law_1174 rfl ?_
  refine g_iload_n X dL_law_1175 rfl ?_
  refine g_iconst X 1 dL_law_1176 (by decide) ?_
  refine g_iadd X dL_law_1177 ?_
  refine g_sld X Y dL_law_1178 ?_
  refine g_aload_n X dL_law_1179 rfl ?_
  refine g_iload_n X dL_law_1180 rfl ?_
  refine g_iconst X 2 dL_law_1181 (by decide) ?_
  refine g_iadd X dL_law_1182 ?_
  refine g_sld X Y dL_law_1183 ?_
  refine g_virtI X [.int (xs (ix (u18 + 1))), .int (xs (ix (u18 + 2)))] [.int r2] k_102 mm_M_prices mv_M_prices ml_L_139 (okM_prices (xs (ix (u18 + 1))) (xs (ix (u18 + 2))) s1 C.l C.w) rfl (by decide) rfl (Nat.le_of_ble_eq_true rfl) dL_law_1184 (fun r4 s3 => ?_)
  refine g_ceq X (tgt := 1369) dL_law_1187 (by decide) ?_ ?_
  · exact gf_sub (hj1369 s3) (by simp [lsub])
  · refine g_iconst X 0 dL_law_1190 (by decide) ?_
    exact g_lret X E dL_law_1191
def fL_30 (j1369 : Sg → Option (Int32 × Sg)) (xs : Nat → Int32) (n : Nat) (u18 : Int32) (s0 : Sg) : Option (Int32 × Sg) := gd (u18 + 1) n (gd (u18 + 2) n (bi (fH_bell (xs (ix (u18 + 1))) (xs (ix (u18 + 2))) s0) fun r2 s1 => gd (u18 + 1) n (gd (u18 + 2) n (bi (fM_bell (xs (ix (u18 + 1))) (xs (ix (u18 + 2))) s1) fun r4 s3 => if r2 = r4 then (j1369 s3) else (some (0, s3))))))
set_option maxHeartbeats 4000000 in
set_option maxRecDepth 100000 in
theorem okL_30 {C : Cx} {b n : Nat} {xs : Nat → Int32} (X : Fx C cL_law 4 R_law ret 16) (E : LE C b) (Y : LX C b n xs) (j1369 : Sg → Option (Int32 × Sg)) (u18 : Int32) (hj1369 : ∀ s : Sg, GF C evI 1369 [some (.ref b), some (.ref (C.w.ad 0)), some (.ref (C.w.ad 102)), some (.int u18)] [] s (j1369 s)) (s0 : Sg) : GF C evI 1192 [some (.ref b), some (.ref (C.w.ad 0)), some (.ref (C.w.ad 102)), some (.int u18)] [] s0 (fL_30 j1369 xs n u18 s0) := by
  unfold fL_30
  refine g_aload_n X dL_law_1192 rfl ?_
  refine g_aload_n X dL_law_1193 rfl ?_
  refine g_iload_n X dL_law_1194 rfl ?_
  refine g_iconst X 1 dL_law_1195 (by decide) ?_
  refine g_iadd X dL_law_1196 ?_
  refine g_sld X Y dL_law_1197 ?_
  refine g_aload_n X dL_law_1198 rfl ?_
  refine g_iload_n X dL_law_1199 rfl ?_
  refine g_iconst X 2 dL_law_1200 (by decide) ?_
  refine g_iadd X dL_law_1201 ?_
  refine g_sld X Y dL_law_1202 ?_
  refine g_virtI X [.int (xs (ix (u18 + 1))), .int (xs (ix (u18 + 2)))] [] k_0 mm_H_bell mv_H_bell ml_L_140 (okH_bell (xs (ix (u18 + 1))) (xs (ix (u18 + 2))) s0 C.l C.w) rfl (by decide) rfl (Nat.le_of_ble_eq_true rfl) dL_law_1203 (fun r2 s1 => ?_)
  refine g_aload_n X dL_law_1206 rfl ?_
  refine g_aload_n X dL_law_1207 rfl ?_
  refine g_iload_n X dL_law_1208 rfl ?_
  refine g_iconst X 1 dL_law_1209 (by decide) ?_
  refine g_iadd X dL_law_1210 ?_
  refine g_sld X Y dL_law_1211 ?_
  refine g_aload_n X dL_law_1212 rfl ?_
  refine g_iload_n X dL_law_1213 rfl ?_
  refine g_iconst X 2 dL_law_1214 (by decide) ?_
  refine g_iadd X dL_law_1215 ?_
  refine g_sld X Y dL_law_1216 ?_
  refine g_virtI X [.int (xs (ix (u18 + 1))), .int (xs (ix (u18 + 2)))] [.int r2] k_102 mm_M_bell mv_M_bell ml_L_143 (okM_bell (xs (ix (u18 + 1))) (xs (ix (u18 + 2))) s1 C.l C.w) rfl (by decide) rfl (Nat.le_of_ble_eq_true rfl) dL_law_1217 (fun r4 s3 => ?_)
  refine g_ceq X (tgt := 1369) dL_law_1220 (by decide) ?_ ?_
  · exact gf_sub (hj1369 s3) (by simp [lsub])
  · refine g_iconst X 0 dL_law_1223 (by decide) ?_
    exact g_lret X E dL_law_1224
def fL_31 (j1369 : Sg → Option (Int32 × Sg)) (xs : Nat → Int32) (n : Nat) (u18 : Int32) (s0 : Sg) : Option (Int32 × Sg) := gd (u18 + 1) n (gd (u18 + 2) n (bi (fH_worth (xs (ix (u18 + 1))) (xs (ix (u18 + 2))) s0) fun r2 s1 => gd (u18 + 1) n (gd (u18 + 2) n (bi (fM_worth (xs (ix (u18 + 1))) (xs (ix (u18 + 2))) s1) fun r4 s3 => if r2 = r4 then (j1369 s3) else (some (0, s3))))))
set_option maxHeartbeats 4000000 in
set_option maxRecDepth 100000 in
theorem okL_31 {C : Cx} {b n : Nat} {xs : Nat → Int32} (X : Fx C cL_law 4 R_law ret 16) (E : LE C b) (Y : LX C b n xs) (j1369 : Sg → Option (Int32 × Sg)) (u18 : Int32) (hj1369 : ∀ s : Sg, GF C evI 1369 [some (.ref b), some (.ref (C.w.ad 0)), some (.ref (C.w.ad 102)), some (.int u18)] [] s (j1369 s)) (s0 : Sg) : GF C evI 1225 [some (.ref b), some (.ref (C.w.ad 0)), some (.ref (C.w.ad 102)), some (.int u18)] [] s0 (fL_31 j1369 xs n u18 s0) := by
  unfold fL_31
  refine g_aload_n X dL_law_1225 rfl ?_
  refine g_aload_n X dL_law_1226 rfl ?_
  refine g_iload_n X dL_law_1227 rfl ?_
  refine g_iconst X 1 dL_law_1228 (by decide) ?_
  refine g_iadd X dL_law_1229 ?_
  refine g_sld X Y dL_law_1230 ?_
  refine g_aload_n X dL_law_1231 rfl ?_
  refine g_iload_n X dL_law_1232 rfl ?_
  refine g_iconst X 2 dL_law_1233 (by decide) ?_
  refine g_iadd X dL_law_1234 ?_
  refine g_sld X Y dL_law_1235 ?_
  refine g_virtI X [.int (xs (ix (u18 + 1))), .int (xs (ix (u18 + 2)))] [] k_0 mm_H_worth mv_H_worth ml_L_144 (okH_worth (xs (ix (u18 + 1))) (xs (ix (u18 + 2))) s0 C.l C.w) rfl (by decide) rfl (Nat.le_of_ble_eq_true rfl) dL_law_1236 (fun r2 s1 => ?_)
  refine g_aload_n X dL_law_1239 rfl ?_
  refine g_aload_n X dL_law_1240 rfl ?_
  refine g_iload_n X dL_law_1241 rfl ?_
  refine g_iconst X 1 dL_law_1242 (by decide) ?_
  refine g_iadd X dL_law_1243 ?_
  refine g_sld X Y dL_law_1244 ?_
  refine g_aload_n X dL_law_1245 rfl ?_
  refine g_iload_n X dL_law_1246 rfl ?_
  refine g_iconst X 2 dL_law_1247 (by decide) ?_
  refine g_iadd X dL_law_1248 ?_
  refine g_sld X Y dL_law_1249 ?_
  refine g_virtI X [.int (xs (ix (u18 + 1))), .int (xs (ix (u18 + 2)))] [.int r2] k_102 mm_M_worth mv_M_worth ml_L_148 (okM_worth (xs (ix (u18 + 1))) (xs (ix (u18 + 2))) s1 C.l C.w) rfl (by decide) rfl (Nat.le_of_ble_eq_true rfl) dL_law_1250 (fun r4 s3 => ?_)
  refine g_ceq X (tgt := 1369) dL_law_1253 (by decide) ?_ ?_
  · exact gf_sub (hj1369 s3) (by simp [lsub])
  · refine g_iconst X 0 dL_law_1256 (by decide) ?_
    exact g_lret X E dL_law_1257
def fL_32 (j1369 : Sg → Option (Int32 × Sg)) (xs : Nat → Int32) (n : Nat) (u18 : Int32) (s0 : Sg) : Option (Int32 × Sg) := bi (fH_worths s0) fun r2 s1 => bi (fM_worths s1) fun r4 s3 => if r2 = r4 then (j1369 s3) else (some (0, s3))
set_option maxHeartbeats 4000000 in
set_option maxRecDepth 100000 in
theorem okL_32 {C : Cx} {b n : Nat} {xs : Nat → Int32} (X : Fx C cL_law 4 R_law ret 16) (E : LE C b) (Y : LX C b n xs) (j1369 : Sg → Option (Int32 × Sg)) (u18 : Int32) (hj1369 : ∀ s : Sg, GF C evI 1369 [some (.ref b), some (.ref (C.w.ad 0)), some (.ref (C.w.ad 102)), some (.int u18)] [] s (j1369 s)) (s0 : Sg) : GF C evI 1258 [some (.ref b), some (.ref (C.w.ad 0)), some (.ref (C.w.ad 102)), some (.int u18)] [] s0 (fL_32 j1369 xs n u18 s0) := by
  unfold fL_32
  refine g_aload_n X dL_law_1258 rfl ?_
  refine g_virtI X [] [] k_0 mm_H_worths mv_H_worths ml_L_149 (okH_worths s0 C.l C.w) rfl (by decide) rfl (Nat.le_of_ble_eq_true rfl) dL_law_1259 (fun r2 s1 => ?_)
  refine g_aload_n X dL_law_1262 rfl ?_
  refine g_virtI X [] [.int r2] k_102 mm_M_worths mv_M_worths ml_L_153 (okM_worths s1 C.l C.w) rfl (by decide) rfl (Nat.le_of_ble_eq_true rfl) dL_law_1263 (fun r4 s3 => ?_)
  refine g_ceq X (tgt := 1369) dL_law_1266 (by decide) ?_ ?_
  · exact gf_sub (hj1369 s3) (by simp [lsub])
  · refine g_iconst X 0 dL_law_1269 (by decide) ?_
    exact g_lret X E dL_law_1270
def fL_33 (j1369 : Sg → Option (Int32 × Sg)) (xs : Nat → Int32) (n : Nat) (u18 : Int32) (s0 : Sg) : Option (Int32 × Sg) := gd (u18 + 1) n (bi (fH_game (xs (ix (u18 + 1))) s0) fun r2 s1 => gd (u18 + 1) n (bi (fM_game (xs (ix (u18 + 1))) s1) fun r4 s3 => if r2 = r4 then (j1369 s3) else (some (0, s3))))
set_option maxHeartbeats 4000000 in
set_option maxRecDepth 100000 in
theorem okL_33 {C : Cx} {b n : Nat} {xs : Nat → Int32} (X : Fx C cL_law 4 R_law ret 16) (E : LE C b) (Y : LX C b n xs) (j1369 : Sg → Option (Int32 × Sg)) (u18 : Int32) (hj1369 : ∀ s : Sg, GF C evI 1369 [some (.ref b), some (.ref (C.w.ad 0)), some (.ref (C.w.ad 102)), some (.int u18)] [] s (j1369 s)) (s0 : Sg) : GF C evI 1271 [some (.ref b), some (.ref (C.w.ad 0)), some (.ref (C.w.ad 102)), some (.int u18)] [] s0 (fL_33 j1369 xs n u18 s0) := by
  unfold fL_33
  refine g_aload_n X dL_law_1271 rfl ?_
  refine g_aload_n X dL_law_1272 rfl ?_
  refine g_iload_n X dL_law_1273 rfl ?_
  refine g_iconst X 1 dL_law_1274 (by decide) ?_
  refine g_iadd X dL_law_1275 ?_
  refine g_sld X Y dL_law_1276 ?_
  refine g_virtI X [.int (xs (ix (u18 + 1)))] [] k_0 mm_H_game mv_H_game ml_L_154 (okH_game (xs (ix (u18 + 1))) s0 C.l C.w) rfl (by decide) rfl (Nat.le_of_ble_eq_true rfl) dL_law_1277 (fun r2 s1 => ?_)
  refine g_aload_n X dL_law_1280 rfl ?_
  refine g_aload_n X dL_law_1281 rfl ?_
  refine g_iload_n X dL_law_1282 rfl ?_
  refine g_iconst X 1 dL_law_1283 (by decide) ?_
  refine g_iadd X dL_law_1284 ?_
  refine g_sld X Y dL_law_1285 ?_
  refine g_virtI X [.int (xs (ix (u18 + 1)))] [.int r2] k_102 mm_M_game mv_M_game ml_L_157 (okM_game (xs (ix (u18 + 1))) s1 C.l C.w) rfl (by decide) rfl (Nat.le_of_ble_eq_true rfl) dL_law_1286 (fun r4 s3 => ?_)
  refine g_ceq X (tgt := 1369) dL_law_1289 (by decide) ?_ ?_
  · exact gf_sub (hj1369 s3) (by simp [lsub])
  · refine g_iconst X 0 dL_law_1292 (by decide) ?_
    exact g_lret X E dL_law_1293
def fL_34 (j1369 : Sg → Option (Int32 × Sg)) (xs : Nat → Int32) (n : Nat) (u18 : Int32) (s0 : Sg) : Option (Int32 × Sg) := bi (fH_undo s0) fun r2 s1 => bi (fM_undo s1) fun r4 s3 => if r2 = r4 then (j1369 s3) else (some (0, s3))
set_option maxHeartbeats 4000000 in
set_option maxRecDepth 100000 in
theorem okL_34 {C : Cx} {b n : Nat} {xs : Nat → Int32} (X : Fx C cL_law 4 R_law ret 16) (E : LE C b) (Y : LX C b n xs) (j1369 : Sg → Option (Int32 × Sg)) (u18 : Int32) (hj1369 : ∀ s : Sg, GF C evI 1369 [some (.ref b), some (.ref (C.w.ad 0)), some (.ref (C.w.ad 102)), some (.int u18)] [] s (j1369 s)) (s0 : Sg) : GF C evI 1294 [some (.ref b), some (.ref (C.w.ad 0)), some (.ref (C.w.ad 102)), some (.int u18)] [] s0 (fL_34 j1369 xs n u18 s0) := by
  unfold fL_34
  refine g_aload_n X dL_law_1294 rfl ?_
  refine g_virtI X [] [] k_0 mm_H_undo mv_H_undo ml_L_158 (okH_undo s0 C.l C.w) rfl (by decide) rfl (Nat.le_of_ble_eq_true rfl) dL_law_1295 (fun r2 s1 => ?_)
  refine g_aload_n X dL_law_1298 rfl ?_
  refine g_virtI X [] [.int r2] k_102 mm_M_undo mv_M_undo ml_L_162 (okM_undo s1 C.l C.w) rfl (by decide) rfl (Nat.le_of_ble_eq_true rfl) dL_law_1299 (fun r4 s3 => ?_)
  refine g_ceq X (tgt := 1369) dL_law_1302 (by decide) ?_ ?_
  · exact gf_sub (hj1369 s3) (by simp [lsub])
  · refine g_iconst X 0 dL_law_1305 (by decide) ?_
    exact g_lret X E dL_law_1306
def fL_35 (j1369 : Sg → Option (Int32 × Sg)) (xs : Nat → Int32) (n : Nat) (u18 : Int32) (s0 : Sg) : Option (Int32 × Sg) := gd (u18 + 1) n (bnd (fun (b1321_0 : Int32) (s1 : Sg) => bi (fH_image b1321_0 s1) fun r3 s2 => gd (u18 + 1) n (bnd (fun (b1338_0 : Int32) (s4 : Sg) => bi (fM_image b1338_0 s4) fun r6 s5 => if r3 = r6 then (j1369 s5) else (some (0, s5))) fun j1338 => if (xs (ix (u18 + 1))) = 0 then (j1338 0 s2) else (j1338 1 s2))) fun j1321 => if (xs (ix (u18 + 1))) = 0 then (j1321 0 s0) else (j1321 1 s0))
set_option maxHeartbeats 4000000 in
set_option maxRecDepth 100000 in
theorem okL_35 {C : Cx} {b n : Nat} {xs : Nat → Int32} (X : Fx C cL_law 4 R_law ret 16) (E : LE C b) (Y : LX C b n xs) (j1369 : Sg → Option (Int32 × Sg)) (u18 : Int32) (hj1369 : ∀ s : Sg, GF C evI 1369 [some (.ref b), some (.ref (C.w.ad 0)), some (.ref (C.w.ad 102)), some (.int u18)] [] s (j1369 s)) (s0 : Sg) : GF C evI 1307 [some (.ref b), some (.ref (C.w.ad 0)), some (.ref (C.w.ad 102)), some (.int u18)] [] s0 (fL_35 j1369 xs n u18 s0) := by
  unfold fL_35
  refine g_aload_n X dL_law_1307 rfl ?_
  refine g_aload_n X dL_law_1308 rfl ?_
  refine g_iload_n X dL_law_1309 rfl ?_
  refine g_iconst X 1 dL_law_1310 (by decide) ?_
  refine g_iadd X dL_law_1311 ?_
  refine g_sld X Y dL_law_1312 ?_
  refine gf_jn (fun j1321 => ∀ (b1321_0 : Int32) (s1 : Sg), GF C evI 1321 [some (.ref b), some (.ref (C.w.ad 0)), some (.ref (C.w.ad 102)), some (.int u18)] [.int b1321_0, .ref (C.w.ad 0)] s1 (j1321 b1321_0 s1)) ?_ ?_
  · intro b1321_0 s1
    refine g_virtI X [.int b1321_0] [] k_0 mm_H_image mv_H_image ml_L_163 (okH_image b1321_0 s1 C.l C.w) rfl (by decide) rfl (Nat.le_of_ble_eq_true rfl) dL_law_1321 (fun r3 s2 => ?_)
    refine g_aload_n X dL_law_1324 rfl ?_
    refine g_aload_n X dL_law_1325 rfl ?_
    refine g_iload_n X dL_law_1326 rfl ?_
    refine g_iconst X 1 dL_law_1327 (by decide) ?_
    refine g_iadd X dL_law_1328 ?_
    refine g_sld X Y dL_law_1329 ?_
    refine gf_jn (fun j1338 => ∀ (b1338_0 : Int32) (s4 : Sg), GF C evI 1338 [some (.ref b), some (.ref (C.w.ad 0)), some (.ref (C.w.ad 102)), some (.int u18)] [.int b1338_0, .ref (C.w.ad 102), .int r3] s4 (j1338 b1338_0 s4)) ?_ ?_
    · intro b1338_0 s4
      refine g_virtI X [.int b1338_0] [.int r3] k_102 mm_M_image mv_M_image ml_L_167 (okM_image b1338_0 s4 C.l C.w) rfl (by decide) rfl (Nat.le_of_ble_eq_true rfl) dL_law_1338 (fun r6 s5 => ?_)
      refine g_ceq X (tgt := 1369) dL_law_1341 (by decide) ?_ ?_
      · exact gf_sub (hj1369 s5) (by simp [lsub])
      · refine g_iconst X 0 dL_law_1344 (by decide) ?_
        exact g_lret X E dL_law_1345
    · intro j1338 hj1338
      refine g_zeq X (tgt := 1337) dL_law_1330 (by decide) ?_ ?_
      · refine g_iconst X 0 dL_law_1337 (by decide) ?_
        exact gf_sub (hj1338 0 s2) (by simp [lsub])
      · refine g_iconst X 1 dL_law_1333 (by decide) ?_
        refine g_goto X 1338 dL_law_1334 (by decide) ?_
        exact gf_sub (hj1338 1 s2) (by simp [lsub])
  · intro j1321 hj1321
    refine g_zeq X (tgt := 1320) dL_law_1313 (by decide) ?_ ?_
    · refine g_iconst X 0 dL_law_1320 (by decide) ?_
      exact gf_sub (hj1321 0 s0) (by simp [lsub])
    · refine g_iconst X 1 dL_law_1316 (by decide) ?_
      refine g_goto X 1321 dL_law_1317 (by decide) ?_
      exact gf_sub (hj1321 1 s0) (by simp [lsub])
def fL_36 (j1369 : Sg → Option (Int32 × Sg)) (xs : Nat → Int32) (n : Nat) (u18 : Int32) (s0 : Sg) : Option (Int32 × Sg) := gd (u18 + 1) n (bi (fH_look (xs (ix (u18 + 1))) s0) fun r2 s1 => gd (u18 + 1) n (bi (fM_look (xs (ix (u18 + 1))) s1) fun r4 s3 => if r2 = r4 then (j1369 s3) else (some (0, s3))))
set_option maxHeartbeats 4000000 in
set_option maxRecDepth 100000 in
theorem okL_36 {C : Cx} {b n : Nat} {xs : Nat → Int32} (X : Fx C cL_law 4 R_law ret 16) (E : LE C b) (Y : LX C b n xs) (j1369 : Sg → Option (Int32 × Sg)) (u18 : Int32) (hj1369 : ∀ s : Sg, GF C evI 1369 [some (.ref b), some (.ref (C.w.ad 0)), some (.ref (C.w.ad 102)), some (.int u18)] [] s (j1369 s)) (s0 : Sg) : GF C evI 1346 [some (.ref b), some (.ref (C.w.ad 0)), some (.ref (C.w.ad 102)), some (.int u18)] [] s0 (fL_36 j1369 xs n u18 s0) := by
  unfold fL_36
  refine g_aload_n X dL_law_1346 rfl ?_
  refine g_aload_n X dL_law_1347 rfl ?_
  refine g_iload_n X dL_law_1348 rfl ?_
  refine g_iconst X 1 dL_law_1349 (by decide) ?_
  refine g_iadd X dL_law_1350 ?_
  refine g_sld X Y dL_law_1351 ?_
  refine g_virtI X [.int (xs (ix (u18 + 1)))] [] k_0 mm_H_look mv_H_look ml_L_168 (okH_look (xs (ix (u18 + 1))) s0 C.l C.w) rfl (by decide) rfl (Nat.le_of_ble_eq_true rfl) dL_law_1352 (fun r2 s1 => ?_)
  refine g_aload_n X dL_law_1355 rfl ?_
  refine g_aload_n X dL_law_1356 rfl ?_
  refine g_iload_n X dL_law_1357 rfl ?_
  refine g_iconst X 1 dL_law_1358 (by decide) ?_
  refine g_iadd X dL_law_1359 ?_
  refine g_sld X Y dL_law_1360 ?_
  refine g_virtI X [.int (xs (ix (u18 + 1)))] [.int r2] k_102 mm_M_look mv_M_look ml_L_171 (okM_look (xs (ix (u18 + 1))) s1 C.l C.w) rfl (by decide) rfl (Nat.le_of_ble_eq_true rfl) dL_law_1361 (fun r4 s3 => ?_)
  refine g_ceq X (tgt := 1369) dL_law_1364 (by decide) ?_ ?_
  · exact gf_sub (hj1369 s3) (by simp [lsub])
  · refine g_iconst X 0 dL_law_1367 (by decide) ?_
    exact g_lret X E dL_law_1368
