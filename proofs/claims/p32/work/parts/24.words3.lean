/-! more words -/
/-! WORDS OF THE TABLES BY THEIR PLACES, DECODED INSTRUCTIONS, WHAT A CLASS AND A METHOD NEED. Written by wip/p1/sx.py. -/
abbrev cX9_make : ByteArray := prog_1_method_4_code
abbrev cL_law : ByteArray := code
def yX9_make : MethodName := ⟨RX9, "make", "(III)I"⟩
theorem w_18 : Cond.classLink RL 9 RX9 ∈ lw_gw := gw_of (in_t1 (List.mem_of_getElem? (i := 18) (by decide +kernel))) rfl
theorem w_19 : Cond.instantiable RX9 9 ∈ lw_gw := gw_of (in_t1 (List.mem_of_getElem? (i := 19) (by decide +kernel))) rfl
theorem w_20 : Cond.methodLink RL 11 yX9_init ∈ lw_gw := gw_of (in_t1 (List.mem_of_getElem? (i := 20) (by decide +kernel))) rfl
theorem w_21 : Cond.instanceMethod yX9_init ∈ lw_gw := gw_of (in_t1 (List.mem_of_getElem? (i := 21) (by decide +kernel))) rfl
theorem w_265 : Cond.methodLink RL 59 yX9_push ∈ lw_gw := gw_of (in_t2 (List.mem_of_getElem? (i := 25) (by decide +kernel))) rfl
theorem w_266 : Cond.instanceMethod yX9_push ∈ lw_gw := gw_of (in_t2 (List.mem_of_getElem? (i := 26) (by decide +kernel))) rfl
theorem w_267 : Cond.selects RX9 yX9_push yX9_push ∈ lw_gw := gw_of (in_t2 (List.mem_of_getElem? (i := 27) (by decide +kernel))) rfl
theorem w_345 : Cond.methodLink RL 63 yX9_pop ∈ lw_gw := gw_of (in_t2 (List.mem_of_getElem? (i := 105) (by decide +kernel))) rfl
theorem w_346 : Cond.instanceMethod yX9_pop ∈ lw_gw := gw_of (in_t2 (List.mem_of_getElem? (i := 106) (by decide +kernel))) rfl
theorem w_347 : Cond.selects RX9 yX9_pop yX9_pop ∈ lw_gw := gw_of (in_t2 (List.mem_of_getElem? (i := 107) (by decide +kernel))) rfl
theorem w_362 : Cond.methodLink RL 29 yX9_make ∈ lw_gw := gw_of (in_t2 (List.mem_of_getElem? (i := 122) (by decide +kernel))) rfl
theorem w_363 : Cond.instanceMethod yX9_make ∈ lw_gw := gw_of (in_t2 (List.mem_of_getElem? (i := 123) (by decide +kernel))) rfl
theorem w_364 : Cond.selects RX9 yX9_make yX9_make ∈ lw_gw := gw_of (in_t2 (List.mem_of_getElem? (i := 124) (by decide +kernel))) rfl
theorem w_365 : Cond.code yX9_make cX9_make 6 (some FieldType.int) ∈ lw_gw := gw_of (in_t2 (List.mem_of_getElem? (i := 125) (by decide +kernel))) rfl
theorem w_385 : Cond.methodLink RX9 94 yX9_leastFields ∈ lw_gw := gw_of (in_t2 (List.mem_of_getElem? (i := 145) (by decide +kernel))) rfl
theorem w_386 : Cond.static yX9_leastFields ∈ lw_gw := gw_of (in_t2 (List.mem_of_getElem? (i := 146) (by decide +kernel))) rfl
theorem w_426 : Cond.methodLink RX9 111 yX9_minor ∈ lw_gw := gw_of (in_t2 (List.mem_of_getElem? (i := 186) (by decide +kernel))) rfl
theorem w_427 : Cond.instanceMethod yX9_minor ∈ lw_gw := gw_of (in_t2 (List.mem_of_getElem? (i := 187) (by decide +kernel))) rfl
theorem w_428 : Cond.selects RX9 yX9_minor yX9_minor ∈ lw_gw := gw_of (in_t2 (List.mem_of_getElem? (i := 188) (by decide +kernel))) rfl
theorem w_664 : Cond.methodLink RX9 114 yX9_full ∈ lw_gw := gw_of (in_t3 (List.mem_of_getElem? (i := 184) (by decide +kernel))) rfl
theorem w_668 : Cond.classLink RX9 118 RX7 ∈ lw_gw := gw_of (in_t3 (List.mem_of_getElem? (i := 188) (by decide +kernel))) rfl
theorem w_669 : Cond.instantiable RX7 14 ∈ lw_gw := gw_of (in_t3 (List.mem_of_getElem? (i := 189) (by decide +kernel))) rfl
theorem w_670 : Cond.methodLink RX9 120 yX7_init ∈ lw_gw := gw_of (in_t3 (List.mem_of_getElem? (i := 190) (by decide +kernel))) rfl
theorem w_671 : Cond.instanceMethod yX7_init ∈ lw_gw := gw_of (in_t3 (List.mem_of_getElem? (i := 191) (by decide +kernel))) rfl
theorem w_753 : Cond.methodLink RX9 123 yX5_add ∈ lw_gw := gw_of (in_t4 (List.mem_of_getElem? (i := 33) (by decide +kernel))) rfl
theorem w_754 : Cond.methodLink RX9 127 yX3_lay ∈ lw_gw := gw_of (in_t4 (List.mem_of_getElem? (i := 34) (by decide +kernel))) rfl
theorem w_755 : Cond.instanceMethod yX3_lay ∈ lw_gw := gw_of (in_t4 (List.mem_of_getElem? (i := 35) (by decide +kernel))) rfl
theorem w_756 : Cond.selects RX3 yX3_lay yX3_lay ∈ lw_gw := gw_of (in_t4 (List.mem_of_getElem? (i := 36) (by decide +kernel))) rfl
theorem w_762 : Cond.methodLink RX9 131 yX1_noteMade ∈ lw_gw := gw_of (in_t4 (List.mem_of_getElem? (i := 42) (by decide +kernel))) rfl
theorem w_763 : Cond.instanceMethod yX1_noteMade ∈ lw_gw := gw_of (in_t4 (List.mem_of_getElem? (i := 43) (by decide +kernel))) rfl
theorem w_764 : Cond.selects RX1 yX1_noteMade yX1_noteMade ∈ lw_gw := gw_of (in_t4 (List.mem_of_getElem? (i := 44) (by decide +kernel))) rfl
theorem w_767 : Cond.methodLink RL 39 yX9_set ∈ lw_gw := gw_of (in_t4 (List.mem_of_getElem? (i := 47) (by decide +kernel))) rfl
theorem w_768 : Cond.instanceMethod yX9_set ∈ lw_gw := gw_of (in_t4 (List.mem_of_getElem? (i := 48) (by decide +kernel))) rfl
theorem w_769 : Cond.selects RX9 yX9_set yX9_set ∈ lw_gw := gw_of (in_t4 (List.mem_of_getElem? (i := 49) (by decide +kernel))) rfl
theorem w_807 : Cond.methodLink RL 42 yX9_put ∈ lw_gw := gw_of (in_t4 (List.mem_of_getElem? (i := 87) (by decide +kernel))) rfl
theorem w_808 : Cond.instanceMethod yX9_put ∈ lw_gw := gw_of (in_t4 (List.mem_of_getElem? (i := 88) (by decide +kernel))) rfl
theorem w_809 : Cond.selects RX9 yX9_put yX9_put ∈ lw_gw := gw_of (in_t4 (List.mem_of_getElem? (i := 89) (by decide +kernel))) rfl
theorem w_811 : Cond.methodLink RL 45 yX9_swap ∈ lw_gw := gw_of (in_t4 (List.mem_of_getElem? (i := 91) (by decide +kernel))) rfl
theorem w_812 : Cond.instanceMethod yX9_swap ∈ lw_gw := gw_of (in_t4 (List.mem_of_getElem? (i := 92) (by decide +kernel))) rfl
theorem w_813 : Cond.selects RX9 yX9_swap yX9_swap ∈ lw_gw := gw_of (in_t4 (List.mem_of_getElem? (i := 93) (by decide +kernel))) rfl
theorem w_821 : Cond.methodLink RL 48 yX9_hash ∈ lw_gw := gw_of (in_t4 (List.mem_of_getElem? (i := 101) (by decide +kernel))) rfl
theorem w_822 : Cond.instanceMethod yX9_hash ∈ lw_gw := gw_of (in_t4 (List.mem_of_getElem? (i := 102) (by decide +kernel))) rfl
theorem w_823 : Cond.selects RX9 yX9_hash yX9_hash ∈ lw_gw := gw_of (in_t4 (List.mem_of_getElem? (i := 103) (by decide +kernel))) rfl
theorem w_829 : Cond.methodLink RL 55 yX9_pin ∈ lw_gw := gw_of (in_t4 (List.mem_of_getElem? (i := 109) (by decide +kernel))) rfl
theorem w_830 : Cond.instanceMethod yX9_pin ∈ lw_gw := gw_of (in_t4 (List.mem_of_getElem? (i := 110) (by decide +kernel))) rfl
theorem w_831 : Cond.selects RX9 yX9_pin yX9_pin ∈ lw_gw := gw_of (in_t4 (List.mem_of_getElem? (i := 111) (by decide +kernel))) rfl
theorem w_843 : Cond.methodLink RL 66 yX9_minor ∈ lw_gw := gw_of (in_t4 (List.mem_of_getElem? (i := 123) (by decide +kernel))) rfl
theorem w_898 : Cond.methodLink RL 77 yX9_digest ∈ lw_gw := gw_of (in_t4 (List.mem_of_getElem? (i := 178) (by decide +kernel))) rfl
theorem w_899 : Cond.instanceMethod yX9_digest ∈ lw_gw := gw_of (in_t4 (List.mem_of_getElem? (i := 179) (by decide +kernel))) rfl
theorem w_900 : Cond.selects RX9 yX9_digest yX9_digest ∈ lw_gw := gw_of (in_t4 (List.mem_of_getElem? (i := 180) (by decide +kernel))) rfl
theorem w_937 : Cond.methodLink RL 18 yL_below ∈ lw_gw := gw_of (in_t4 (List.mem_of_getElem? (i := 217) (by decide +kernel))) rfl
theorem w_938 : Cond.static yL_below ∈ lw_gw := gw_of (in_t4 (List.mem_of_getElem? (i := 218) (by decide +kernel))) rfl
theorem w_941 : Cond.methodLink RL 12 yL_cell ∈ lw_gw := gw_of (in_t4 (List.mem_of_getElem? (i := 221) (by decide +kernel))) rfl
theorem w_942 : Cond.static yL_cell ∈ lw_gw := gw_of (in_t4 (List.mem_of_getElem? (i := 222) (by decide +kernel))) rfl
theorem w_945 : Cond.methodLink RL 51 yL_pinned ∈ lw_gw := gw_of (in_t4 (List.mem_of_getElem? (i := 225) (by decide +kernel))) rfl
theorem w_946 : Cond.static yL_pinned ∈ lw_gw := gw_of (in_t4 (List.mem_of_getElem? (i := 226) (by decide +kernel))) rfl
theorem w_948 : Cond.methodLink RL 69 yL_isFull ∈ lw_gw := gw_of (in_t4 (List.mem_of_getElem? (i := 228) (by decide +kernel))) rfl
theorem w_949 : Cond.static yL_isFull ∈ lw_gw := gw_of (in_t4 (List.mem_of_getElem? (i := 229) (by decide +kernel))) rfl
theorem w_957 : Cond.methodLink RL 73 yL_isSound ∈ lw_gw := gw_of (in_t4 (List.mem_of_getElem? (i := 237) (by decide +kernel))) rfl
theorem w_958 : Cond.static yL_isSound ∈ lw_gw := gw_of (in_t4 (List.mem_of_getElem? (i := 238) (by decide +kernel))) rfl
theorem dL_law_0 : decode cL_law 0 = .ok (.new 9, 3) := by decide +kernel
theorem dL_law_100 : decode cL_law 100 = .ok (.istore 7, 2) := by decide +kernel
theorem dL_law_102 : decode cL_law 102 = .ok (.aload_n 1, 1) := by decide +kernel
theorem dL_law_103 : decode cL_law 103 = .ok (.iload 6, 2) := by decide +kernel
theorem dL_law_105 : decode cL_law 105 = .ok (.invokevirtual 22, 3) := by decide +kernel
theorem dL_law_108 : decode cL_law 108 = .ok (.istore 8, 2) := by decide +kernel
theorem dL_law_11 : decode cL_law 11 = .ok (.newarray .int, 2) := by decide +kernel
theorem dL_law_110 : decode cL_law 110 = .ok (.iconst 1, 1) := by decide +kernel
theorem dL_law_111 : decode cL_law 111 = .ok (.istore 9, 2) := by decide +kernel
theorem dL_law_113 : decode cL_law 113 = .ok (.iload 5, 2) := by decide +kernel
theorem dL_law_115 : decode cL_law 115 = .ok (.bipush 14, 2) := by decide +kernel
theorem dL_law_117 : decode cL_law 117 = .ok (.invokestatic 18, 3) := by decide +kernel
theorem dL_law_120 : decode cL_law 120 = .ok (.tableswitch 534 0 12 #[68, 68, 68, 68, 194, 194, 194, 265, 303, 330, 373, 433, 502], 68) := by decide +kernel
theorem dL_law_13 : decode cL_law 13 = .ok (.astore_n 2, 1) := by decide +kernel
theorem dL_law_14 : decode cL_law 14 = .ok (.sipush 200, 3) := by decide +kernel
theorem dL_law_17 : decode cL_law 17 = .ok (.newarray .int, 2) := by decide +kernel
theorem dL_law_188 : decode cL_law 188 = .ok (.iload 5, 2) := by decide +kernel
theorem dL_law_19 : decode cL_law 19 = .ok (.astore_n 3, 1) := by decide +kernel
theorem dL_law_190 : decode cL_law 190 = .ok (.bipush 7, 2) := by decide +kernel
theorem dL_law_192 : decode cL_law 192 = .ok (.ishr, 1) := by decide +kernel
theorem dL_law_193 : decode cL_law 193 = .ok (.iconst 3, 1) := by decide +kernel
theorem dL_law_194 : decode cL_law 194 = .ok (.invokestatic 18, 3) := by decide +kernel
theorem dL_law_197 : decode cL_law 197 = .ok (.ifCond .le 7, 3) := by decide +kernel
theorem dL_law_20 : decode cL_law 20 = .ok (.iconst 0, 1) := by decide +kernel
theorem dL_law_200 : decode cL_law 200 = .ok (.iconst 0, 1) := by decide +kernel
theorem dL_law_201 : decode cL_law 201 = .ok (.goto 11, 3) := by decide +kernel
theorem dL_law_204 : decode cL_law 204 = .ok (.iload 5, 2) := by decide +kernel
theorem dL_law_206 : decode cL_law 206 = .ok (.iconst 4, 1) := by decide +kernel
theorem dL_law_207 : decode cL_law 207 = .ok (.ishr, 1) := by decide +kernel
theorem dL_law_208 : decode cL_law 208 = .ok (.iconst 5, 1) := by decide +kernel
theorem dL_law_209 : decode cL_law 209 = .ok (.invokestatic 18, 3) := by decide +kernel
theorem dL_law_21 : decode cL_law 21 = .ok (.istore 4, 2) := by decide +kernel
theorem dL_law_212 : decode cL_law 212 = .ok (.istore 10, 2) := by decide +kernel
theorem dL_law_214 : decode cL_law 214 = .ok (.aload_n 1, 1) := by decide +kernel
theorem dL_law_215 : decode cL_law 215 = .ok (.iconst 0, 1) := by decide +kernel
theorem dL_law_216 : decode cL_law 216 = .ok (.invokevirtual 26, 3) := by decide +kernel
theorem dL_law_219 : decode cL_law 219 = .ok (.sipush 200, 3) := by decide +kernel
theorem dL_law_222 : decode cL_law 222 = .ok (.if_icmp .ne 7, 3) := by decide +kernel
theorem dL_law_225 : decode cL_law 225 = .ok (.iconst (-1), 1) := by decide +kernel
theorem dL_law_226 : decode cL_law 226 = .ok (.goto 49, 3) := by decide +kernel
theorem dL_law_229 : decode cL_law 229 = .ok (.aload_n 1, 1) := by decide +kernel
theorem dL_law_23 : decode cL_law 23 = .ok (.iload 4, 2) := by decide +kernel
theorem dL_law_230 : decode cL_law 230 = .ok (.iload 6, 2) := by decide +kernel
theorem dL_law_232 : decode cL_law 232 = .ok (.iload 10, 2) := by decide +kernel
theorem dL_law_234 : decode cL_law 234 = .ok (.iload 5, 2) := by decide +kernel
theorem dL_law_236 : decode cL_law 236 = .ok (.bipush 6, 2) := by decide +kernel
theorem dL_law_238 : decode cL_law 238 = .ok (.ishr, 1) := by decide +kernel
theorem dL_law_239 : decode cL_law 239 = .ok (.bipush 8, 2) := by decide +kernel
theorem dL_law_241 : decode cL_law 241 = .ok (.invokestatic 18, 3) := by decide +kernel
theorem dL_law_244 : decode cL_law 244 = .ok (.ifCond .ne 18, 3) := by decide +kernel
theorem dL_law_247 : decode cL_law 247 = .ok (.bipush 12, 2) := by decide +kernel
theorem dL_law_249 : decode cL_law 249 = .ok (.iload 5, 2) := by decide +kernel
theorem dL_law_25 : decode cL_law 25 = .ok (.sipush 200, 3) := by decide +kernel
theorem dL_law_251 : decode cL_law 251 = .ok (.iconst 2, 1) := by decide +kernel
theorem dL_law_252 : decode cL_law 252 = .ok (.ishr, 1) := by decide +kernel
theorem dL_law_253 : decode cL_law 253 = .ok (.bipush 9, 2) := by decide +kernel
theorem dL_law_255 : decode cL_law 255 = .ok (.invokestatic 18, 3) := by decide +kernel
theorem dL_law_258 : decode cL_law 258 = .ok (.iadd, 1) := by decide +kernel
theorem dL_law_259 : decode cL_law 259 = .ok (.goto 13, 3) := by decide +kernel
theorem dL_law_262 : decode cL_law 262 = .ok (.iconst 2, 1) := by decide +kernel
theorem dL_law_263 : decode cL_law 263 = .ok (.iload 5, 2) := by decide +kernel
theorem dL_law_265 : decode cL_law 265 = .ok (.iconst 2, 1) := by decide +kernel
theorem dL_law_266 : decode cL_law 266 = .ok (.ishr, 1) := by decide +kernel
theorem dL_law_267 : decode cL_law 267 = .ok (.iconst 4, 1) := by decide +kernel
theorem dL_law_268 : decode cL_law 268 = .ok (.invokestatic 18, 3) := by decide +kernel
theorem dL_law_271 : decode cL_law 271 = .ok (.iadd, 1) := by decide +kernel
theorem dL_law_272 : decode cL_law 272 = .ok (.invokevirtual 29, 3) := by decide +kernel
theorem dL_law_275 : decode cL_law 275 = .ok (.istore 11, 2) := by decide +kernel
theorem dL_law_277 : decode cL_law 277 = .ok (.iload 11, 2) := by decide +kernel
theorem dL_law_279 : decode cL_law 279 = .ok (.ifCond .lt 25, 3) := by decide +kernel
theorem dL_law_28 : decode cL_law 28 = .ok (.if_icmp .ge 19, 3) := by decide +kernel
theorem dL_law_282 : decode cL_law 282 = .ok (.aload_n 1, 1) := by decide +kernel
theorem dL_law_283 : decode cL_law 283 = .ok (.iload 6, 2) := by decide +kernel
theorem dL_law_285 : decode cL_law 285 = .ok (.invokevirtual 22, 3) := by decide +kernel
theorem dL_law_288 : decode cL_law 288 = .ok (.iload 11, 2) := by decide +kernel
theorem dL_law_290 : decode cL_law 290 = .ok (.if_icmp .ne 18, 3) := by decide +kernel
theorem dL_law_293 : decode cL_law 293 = .ok (.aload_n 1, 1) := by decide +kernel
theorem dL_law_294 : decode cL_law 294 = .ok (.iload 11, 2) := by decide +kernel
theorem dL_law_296 : decode cL_law 296 = .ok (.iconst 4, 1) := by decide +kernel
theorem dL_law_297 : decode cL_law 297 = .ok (.invokevirtual 33, 3) := by decide +kernel
theorem dL_law_3 : decode cL_law 3 = .ok (.dup, 1) := by decide +kernel
theorem dL_law_300 : decode cL_law 300 = .ok (.iconst (-1), 1) := by decide +kernel
theorem dL_law_301 : decode cL_law 301 = .ok (.if_icmp .ne 7, 3) := by decide +kernel
theorem dL_law_304 : decode cL_law 304 = .ok (.iconst 1, 1) := by decide +kernel
theorem dL_law_305 : decode cL_law 305 = .ok (.goto 4, 3) := by decide +kernel
theorem dL_law_308 : decode cL_law 308 = .ok (.iconst 0, 1) := by decide +kernel
theorem dL_law_309 : decode cL_law 309 = .ok (.istore 9, 2) := by decide +kernel
theorem dL_law_31 : decode cL_law 31 = .ok (.aload_n 2, 1) := by decide +kernel
theorem dL_law_311 : decode cL_law 311 = .ok (.goto 365, 3) := by decide +kernel
theorem dL_law_314 : decode cL_law 314 = .ok (.iload 8, 2) := by decide +kernel
theorem dL_law_316 : decode cL_law 316 = .ok (.ifCond .ge 6, 3) := by decide +kernel
theorem dL_law_319 : decode cL_law 319 = .ok (.goto 357, 3) := by decide +kernel
theorem dL_law_32 : decode cL_law 32 = .ok (.iload 4, 2) := by decide +kernel
theorem dL_law_322 : decode cL_law 322 = .ok (.iload 5, 2) := by decide +kernel
theorem dL_law_324 : decode cL_law 324 = .ok (.bipush 7, 2) := by decide +kernel
theorem dL_law_326 : decode cL_law 326 = .ok (.ishr, 1) := by decide +kernel
theorem dL_law_327 : decode cL_law 327 = .ok (.iconst 2, 1) := by decide +kernel
theorem dL_law_328 : decode cL_law 328 = .ok (.invokestatic 18, 3) := by decide +kernel
theorem dL_law_331 : decode cL_law 331 = .ok (.istore 12, 2) := by decide +kernel
theorem dL_law_333 : decode cL_law 333 = .ok (.aload_n 1, 1) := by decide +kernel
theorem dL_law_334 : decode cL_law 334 = .ok (.iload 8, 2) := by decide +kernel
theorem dL_law_336 : decode cL_law 336 = .ok (.iload 12, 2) := by decide +kernel
theorem dL_law_338 : decode cL_law 338 = .ok (.invokevirtual 36, 3) := by decide +kernel
theorem dL_law_34 : decode cL_law 34 = .ok (.iconst (-1), 1) := by decide +kernel
theorem dL_law_341 : decode cL_law 341 = .ok (.istore 13, 2) := by decide +kernel
theorem dL_law_343 : decode cL_law 343 = .ok (.aload_n 1, 1) := by decide +kernel
theorem dL_law_344 : decode cL_law 344 = .ok (.iload 6, 2) := by decide +kernel
theorem dL_law_346 : decode cL_law 346 = .ok (.iload 12, 2) := by decide +kernel
theorem dL_law_348 : decode cL_law 348 = .ok (.iload 7, 2) := by decide +kernel
theorem dL_law_35 : decode cL_law 35 = .ok (.iastore, 1) := by decide +kernel
theorem dL_law_350 : decode cL_law 350 = .ok (.invokevirtual 39, 3) := by decide +kernel
theorem dL_law_353 : decode cL_law 353 = .ok (.iload 13, 2) := by decide +kernel
theorem dL_law_355 : decode cL_law 355 = .ok (.if_icmp .ne 24, 3) := by decide +kernel
theorem dL_law_358 : decode cL_law 358 = .ok (.aload_n 1, 1) := by decide +kernel
theorem dL_law_359 : decode cL_law 359 = .ok (.iload 8, 2) := by decide +kernel
theorem dL_law_36 : decode cL_law 36 = .ok (.aload_n 3, 1) := by decide +kernel
theorem dL_law_361 : decode cL_law 361 = .ok (.iload 12, 2) := by decide +kernel
theorem dL_law_363 : decode cL_law 363 = .ok (.invokevirtual 36, 3) := by decide +kernel
theorem dL_law_366 : decode cL_law 366 = .ok (.aload_n 1, 1) := by decide +kernel
theorem dL_law_367 : decode cL_law 367 = .ok (.iload 7, 2) := by decide +kernel
theorem dL_law_369 : decode cL_law 369 = .ok (.invokevirtual 22, 3) := by decide +kernel
theorem dL_law_37 : decode cL_law 37 = .ok (.iload 4, 2) := by decide +kernel
theorem dL_law_372 : decode cL_law 372 = .ok (.if_icmp .ne 7, 3) := by decide +kernel
theorem dL_law_375 : decode cL_law 375 = .ok (.iconst 1, 1) := by decide +kernel
theorem dL_law_376 : decode cL_law 376 = .ok (.goto 4, 3) := by decide +kernel
theorem dL_law_379 : decode cL_law 379 = .ok (.iconst 0, 1) := by decide +kernel
theorem dL_law_380 : decode cL_law 380 = .ok (.istore 9, 2) := by decide +kernel
theorem dL_law_382 : decode cL_law 382 = .ok (.goto 294, 3) := by decide +kernel
theorem dL_law_385 : decode cL_law 385 = .ok (.aload_n 1, 1) := by decide +kernel
theorem dL_law_386 : decode cL_law 386 = .ok (.iload 6, 2) := by decide +kernel
theorem dL_law_388 : decode cL_law 388 = .ok (.iload 5, 2) := by decide +kernel
theorem dL_law_39 : decode cL_law 39 = .ok (.iconst (-1), 1) := by decide +kernel
theorem dL_law_390 : decode cL_law 390 = .ok (.iconst 2, 1) := by decide +kernel
theorem dL_law_391 : decode cL_law 391 = .ok (.ishr, 1) := by decide +kernel
theorem dL_law_392 : decode cL_law 392 = .ok (.iconst 2, 1) := by decide +kernel
theorem dL_law_393 : decode cL_law 393 = .ok (.invokestatic 18, 3) := by decide +kernel
theorem dL_law_396 : decode cL_law 396 = .ok (.ifCond .ne 7, 3) := by decide +kernel
theorem dL_law_399 : decode cL_law 399 = .ok (.iconst (-1), 1) := by decide +kernel
theorem dL_law_4 : decode cL_law 4 = .ok (.invokespecial 11, 3) := by decide +kernel
theorem dL_law_40 : decode cL_law 40 = .ok (.iastore, 1) := by decide +kernel
theorem dL_law_400 : decode cL_law 400 = .ok (.goto 5, 3) := by decide +kernel
theorem dL_law_403 : decode cL_law 403 = .ok (.iload 7, 2) := by decide +kernel
theorem dL_law_405 : decode cL_law 405 = .ok (.invokevirtual 42, 3) := by decide +kernel
theorem dL_law_408 : decode cL_law 408 = .ok (.iload 8, 2) := by decide +kernel
theorem dL_law_41 : decode cL_law 41 = .ok (.iinc 4 1, 3) := by decide +kernel
theorem dL_law_410 : decode cL_law 410 = .ok (.if_icmp .ne 7, 3) := by decide +kernel
theorem dL_law_413 : decode cL_law 413 = .ok (.iconst 1, 1) := by decide +kernel
theorem dL_law_414 : decode cL_law 414 = .ok (.goto 4, 3) := by decide +kernel
theorem dL_law_417 : decode cL_law 417 = .ok (.iconst 0, 1) := by decide +kernel
theorem dL_law_418 : decode cL_law 418 = .ok (.istore 9, 2) := by decide +kernel
theorem dL_law_420 : decode cL_law 420 = .ok (.goto 256, 3) := by decide +kernel
theorem dL_law_423 : decode cL_law 423 = .ok (.aload_n 1, 1) := by decide +kernel
theorem dL_law_424 : decode cL_law 424 = .ok (.iload 6, 2) := by decide +kernel
theorem dL_law_426 : decode cL_law 426 = .ok (.iload 7, 2) := by decide +kernel
theorem dL_law_428 : decode cL_law 428 = .ok (.invokevirtual 45, 3) := by decide +kernel
theorem dL_law_431 : decode cL_law 431 = .ok (.aload_n 1, 1) := by decide +kernel
theorem dL_law_432 : decode cL_law 432 = .ok (.iload 6, 2) := by decide +kernel
theorem dL_law_434 : decode cL_law 434 = .ok (.invokevirtual 22, 3) := by decide +kernel
theorem dL_law_437 : decode cL_law 437 = .ok (.if_icmp .ne 7, 3) := by decide +kernel
theorem dL_law_44 : decode cL_law 44 = .ok (.goto (-21), 3) := by decide +kernel
theorem dL_law_440 : decode cL_law 440 = .ok (.iconst 1, 1) := by decide +kernel
theorem dL_law_441 : decode cL_law 441 = .ok (.goto 4, 3) := by decide +kernel
theorem dL_law_444 : decode cL_law 444 = .ok (.iconst 0, 1) := by decide +kernel
theorem dL_law_445 : decode cL_law 445 = .ok (.istore 9, 2) := by decide +kernel
theorem dL_law_447 : decode cL_law 447 = .ok (.goto 229, 3) := by decide +kernel
theorem dL_law_450 : decode cL_law 450 = .ok (.iload 8, 2) := by decide +kernel
theorem dL_law_452 : decode cL_law 452 = .ok (.ifCond .ge 6, 3) := by decide +kernel
theorem dL_law_455 : decode cL_law 455 = .ok (.goto 221, 3) := by decide +kernel
theorem dL_law_458 : decode cL_law 458 = .ok (.aload_n 2, 1) := by decide +kernel
theorem dL_law_459 : decode cL_law 459 = .ok (.iload 8, 2) := by decide +kernel
theorem dL_law_461 : decode cL_law 461 = .ok (.iaload, 1) := by decide +kernel
theorem dL_law_462 : decode cL_law 462 = .ok (.ifCond .lt 18, 3) := by decide +kernel
theorem dL_law_465 : decode cL_law 465 = .ok (.aload_n 1, 1) := by decide +kernel
theorem dL_law_466 : decode cL_law 466 = .ok (.iload 6, 2) := by decide +kernel
theorem dL_law_468 : decode cL_law 468 = .ok (.invokevirtual 48, 3) := by decide +kernel
theorem dL_law_47 : decode cL_law 47 = .ok (.iconst 0, 1) := by decide +kernel
theorem dL_law_471 : decode cL_law 471 = .ok (.aload_n 2, 1) := by decide +kernel
theorem dL_law_472 : decode cL_law 472 = .ok (.iload 8, 2) := by decide +kernel
theorem dL_law_474 : decode cL_law 474 = .ok (.iaload, 1) := by decide +kernel
theorem dL_law_475 : decode cL_law 475 = .ok (.if_icmp .eq 5, 3) := by decide +kernel
theorem dL_law_478 : decode cL_law 478 = .ok (.iconst 0, 1) := by decide +kernel
theorem dL_law_479 : decode cL_law 479 = .ok (.ireturn, 1) := by decide +kernel
theorem dL_law_48 : decode cL_law 48 = .ok (.istore 4, 2) := by decide +kernel
theorem dL_law_480 : decode cL_law 480 = .ok (.aload_n 2, 1) := by decide +kernel
theorem dL_law_481 : decode cL_law 481 = .ok (.iload 8, 2) := by decide +kernel
theorem dL_law_483 : decode cL_law 483 = .ok (.aload_n 1, 1) := by decide +kernel
theorem dL_law_484 : decode cL_law 484 = .ok (.iload 6, 2) := by decide +kernel
theorem dL_law_486 : decode cL_law 486 = .ok (.invokevirtual 48, 3) := by decide +kernel
theorem dL_law_489 : decode cL_law 489 = .ok (.iastore, 1) := by decide +kernel
theorem dL_law_490 : decode cL_law 490 = .ok (.goto 186, 3) := by decide +kernel
theorem dL_law_493 : decode cL_law 493 = .ok (.iload 8, 2) := by decide +kernel
theorem dL_law_495 : decode cL_law 495 = .ok (.ifCond .lt 181, 3) := by decide +kernel
theorem dL_law_498 : decode cL_law 498 = .ok (.aload_n 1, 1) := by decide +kernel
theorem dL_law_499 : decode cL_law 499 = .ok (.invokestatic 51, 3) := by decide +kernel
theorem dL_law_50 : decode cL_law 50 = .ok (.iload 4, 2) := by decide +kernel
theorem dL_law_502 : decode cL_law 502 = .ok (.iconst 4, 1) := by decide +kernel
theorem dL_law_503 : decode cL_law 503 = .ok (.if_icmp .ne 6, 3) := by decide +kernel
theorem dL_law_506 : decode cL_law 506 = .ok (.goto 170, 3) := by decide +kernel
theorem dL_law_509 : decode cL_law 509 = .ok (.aload_n 1, 1) := by decide +kernel
theorem dL_law_510 : decode cL_law 510 = .ok (.iload 6, 2) := by decide +kernel
theorem dL_law_512 : decode cL_law 512 = .ok (.invokevirtual 55, 3) := by decide +kernel
theorem dL_law_515 : decode cL_law 515 = .ok (.ifCond .eq 17, 3) := by decide +kernel
theorem dL_law_518 : decode cL_law 518 = .ok (.aload_n 3, 1) := by decide +kernel
theorem dL_law_519 : decode cL_law 519 = .ok (.iload 8, 2) := by decide +kernel
theorem dL_law_52 : decode cL_law 52 = .ok (.bipush 100, 2) := by decide +kernel
theorem dL_law_521 : decode cL_law 521 = .ok (.aload_n 1, 1) := by decide +kernel
theorem dL_law_522 : decode cL_law 522 = .ok (.iload 8, 2) := by decide +kernel
theorem dL_law_524 : decode cL_law 524 = .ok (.iconst 1, 1) := by decide +kernel
theorem dL_law_525 : decode cL_law 525 = .ok (.invokevirtual 33, 3) := by decide +kernel
theorem dL_law_528 : decode cL_law 528 = .ok (.iastore, 1) := by decide +kernel
theorem dL_law_529 : decode cL_law 529 = .ok (.goto 147, 3) := by decide +kernel
theorem dL_law_532 : decode cL_law 532 = .ok (.aload_n 1, 1) := by decide +kernel
theorem dL_law_533 : decode cL_law 533 = .ok (.iload 8, 2) := by decide +kernel
theorem dL_law_535 : decode cL_law 535 = .ok (.iconst 0, 1) := by decide +kernel
theorem dL_law_536 : decode cL_law 536 = .ok (.invokevirtual 33, 3) := by decide +kernel
theorem dL_law_539 : decode cL_law 539 = .ok (.iconst 1, 1) := by decide +kernel
theorem dL_law_54 : decode cL_law 54 = .ok (.if_icmp .ge 644, 3) := by decide +kernel
theorem dL_law_540 : decode cL_law 540 = .ok (.if_icmp .ne 7, 3) := by decide +kernel
theorem dL_law_543 : decode cL_law 543 = .ok (.iconst 1, 1) := by decide +kernel
theorem dL_law_544 : decode cL_law 544 = .ok (.goto 4, 3) := by decide +kernel
theorem dL_law_547 : decode cL_law 547 = .ok (.iconst 0, 1) := by decide +kernel
theorem dL_law_548 : decode cL_law 548 = .ok (.istore 9, 2) := by decide +kernel
theorem dL_law_550 : decode cL_law 550 = .ok (.goto 126, 3) := by decide +kernel
theorem dL_law_553 : decode cL_law 553 = .ok (.iload 5, 2) := by decide +kernel
theorem dL_law_555 : decode cL_law 555 = .ok (.iconst 2, 1) := by decide +kernel
theorem dL_law_556 : decode cL_law 556 = .ok (.ishr, 1) := by decide +kernel
theorem dL_law_557 : decode cL_law 557 = .ok (.iconst 3, 1) := by decide +kernel
theorem dL_law_558 : decode cL_law 558 = .ok (.invokestatic 18, 3) := by decide +kernel
theorem dL_law_561 : decode cL_law 561 = .ok (.ifCond .ne 27, 3) := by decide +kernel
theorem dL_law_564 : decode cL_law 564 = .ok (.aload_n 1, 1) := by decide +kernel
theorem dL_law_565 : decode cL_law 565 = .ok (.invokevirtual 59, 3) := by decide +kernel
theorem dL_law_568 : decode cL_law 568 = .ok (.ifCond .lt 13, 3) := by decide +kernel
theorem dL_law_57 : decode cL_law 57 = .ok (.aload_n 0, 1) := by decide +kernel
theorem dL_law_571 : decode cL_law 571 = .ok (.aload_n 1, 1) := by decide +kernel
theorem dL_law_572 : decode cL_law 572 = .ok (.iconst 2, 1) := by decide +kernel
theorem dL_law_573 : decode cL_law 573 = .ok (.invokevirtual 26, 3) := by decide +kernel
theorem dL_law_576 : decode cL_law 576 = .ok (.bipush 9, 2) := by decide +kernel
theorem dL_law_578 : decode cL_law 578 = .ok (.if_icmp .ge 7, 3) := by decide +kernel
theorem dL_law_58 : decode cL_law 58 = .ok (.iload 4, 2) := by decide +kernel
theorem dL_law_581 : decode cL_law 581 = .ok (.iconst 1, 1) := by decide +kernel
theorem dL_law_582 : decode cL_law 582 = .ok (.goto 4, 3) := by decide +kernel
theorem dL_law_585 : decode cL_law 585 = .ok (.iconst 0, 1) := by decide +kernel
theorem dL_law_586 : decode cL_law 586 = .ok (.istore 9, 2) := by decide +kernel
theorem dL_law_588 : decode cL_law 588 = .ok (.aload_n 1, 1) := by decide +kernel
theorem dL_law_589 : decode cL_law 589 = .ok (.iconst 2, 1) := by decide +kernel
theorem dL_law_590 : decode cL_law 590 = .ok (.invokevirtual 26, 3) := by decide +kernel
theorem dL_law_593 : decode cL_law 593 = .ok (.iconst 5, 1) := by decide +kernel
theorem dL_law_594 : decode cL_law 594 = .ok (.if_icmp .le 82, 3) := by decide +kernel
theorem dL_law_597 : decode cL_law 597 = .ok (.iload 9, 2) := by decide +kernel
theorem dL_law_599 : decode cL_law 599 = .ok (.aload_n 1, 1) := by decide +kernel
theorem dL_law_60 : decode cL_law 60 = .ok (.bipush 16, 2) := by decide +kernel
theorem dL_law_600 : decode cL_law 600 = .ok (.invokevirtual 63, 3) := by decide +kernel
theorem dL_law_603 : decode cL_law 603 = .ok (.aload_n 1, 1) := by decide +kernel
theorem dL_law_604 : decode cL_law 604 = .ok (.iconst 2, 1) := by decide +kernel
theorem dL_law_605 : decode cL_law 605 = .ok (.invokevirtual 26, 3) := by decide +kernel
theorem dL_law_608 : decode cL_law 608 = .ok (.if_icmp .ne 7, 3) := by decide +kernel
theorem dL_law_611 : decode cL_law 611 = .ok (.iconst 1, 1) := by decide +kernel
theorem dL_law_612 : decode cL_law 612 = .ok (.goto 4, 3) := by decide +kernel
theorem dL_law_615 : decode cL_law 615 = .ok (.iconst 0, 1) := by decide +kernel
theorem dL_law_616 : decode cL_law 616 = .ok (.iand, 1) := by decide +kernel
theorem dL_law_617 : decode cL_law 617 = .ok (.istore 9, 2) := by decide +kernel
theorem dL_law_619 : decode cL_law 619 = .ok (.goto 57, 3) := by decide +kernel
theorem dL_law_62 : decode cL_law 62 = .ok (.irem, 1) := by decide +kernel
theorem dL_law_622 : decode cL_law 622 = .ok (.aload_n 1, 1) := by decide +kernel
theorem dL_law_623 : decode cL_law 623 = .ok (.iconst 1, 1) := by decide +kernel
theorem dL_law_624 : decode cL_law 624 = .ok (.invokevirtual 26, 3) := by decide +kernel
theorem dL_law_627 : decode cL_law 627 = .ok (.istore 14, 2) := by decide +kernel
theorem dL_law_629 : decode cL_law 629 = .ok (.aload_n 1, 1) := by decide +kernel
theorem dL_law_63 : decode cL_law 63 = .ok (.invokestatic 12, 3) := by decide +kernel
theorem dL_law_630 : decode cL_law 630 = .ok (.invokevirtual 66, 3) := by decide +kernel
theorem dL_law_633 : decode cL_law 633 = .ok (.iload 14, 2) := by decide +kernel
theorem dL_law_635 : decode cL_law 635 = .ok (.aload_n 1, 1) := by decide +kernel
theorem dL_law_636 : decode cL_law 636 = .ok (.iconst 1, 1) := by decide +kernel
theorem dL_law_637 : decode cL_law 637 = .ok (.invokevirtual 26, 3) := by decide +kernel
theorem dL_law_640 : decode cL_law 640 = .ok (.isub, 1) := by decide +kernel
theorem dL_law_641 : decode cL_law 641 = .ok (.if_icmp .ne 7, 3) := by decide +kernel
theorem dL_law_644 : decode cL_law 644 = .ok (.iconst 1, 1) := by decide +kernel
theorem dL_law_645 : decode cL_law 645 = .ok (.goto 4, 3) := by decide +kernel
theorem dL_law_648 : decode cL_law 648 = .ok (.iconst 0, 1) := by decide +kernel
theorem dL_law_649 : decode cL_law 649 = .ok (.istore 9, 2) := by decide +kernel
theorem dL_law_651 : decode cL_law 651 = .ok (.goto 25, 3) := by decide +kernel
theorem dL_law_654 : decode cL_law 654 = .ok (.aload_n 1, 1) := by decide +kernel
theorem dL_law_655 : decode cL_law 655 = .ok (.iload 5, 2) := by decide +kernel
theorem dL_law_657 : decode cL_law 657 = .ok (.iconst 3, 1) := by decide +kernel
theorem dL_law_658 : decode cL_law 658 = .ok (.ishr, 1) := by decide +kernel
theorem dL_law_659 : decode cL_law 659 = .ok (.iconst 2, 1) := by decide +kernel
theorem dL_law_66 : decode cL_law 66 = .ok (.iload 4, 2) := by decide +kernel
theorem dL_law_660 : decode cL_law 660 = .ok (.invokestatic 18, 3) := by decide +kernel
theorem dL_law_663 : decode cL_law 663 = .ok (.ifCond .ne 7, 3) := by decide +kernel
theorem dL_law_666 : decode cL_law 666 = .ok (.iconst 1, 1) := by decide +kernel
theorem dL_law_667 : decode cL_law 667 = .ok (.goto 4, 3) := by decide +kernel
theorem dL_law_670 : decode cL_law 670 = .ok (.iconst 0, 1) := by decide +kernel
theorem dL_law_671 : decode cL_law 671 = .ok (.invokestatic 69, 3) := by decide +kernel
theorem dL_law_674 : decode cL_law 674 = .ok (.istore 9, 2) := by decide +kernel
theorem dL_law_676 : decode cL_law 676 = .ok (.iload 9, 2) := by decide +kernel
theorem dL_law_678 : decode cL_law 678 = .ok (.ifCond .eq 12, 3) := by decide +kernel
theorem dL_law_68 : decode cL_law 68 = .ok (.bipush 16, 2) := by decide +kernel
theorem dL_law_681 : decode cL_law 681 = .ok (.aload_n 1, 1) := by decide +kernel
theorem dL_law_682 : decode cL_law 682 = .ok (.aload_n 2, 1) := by decide +kernel
theorem dL_law_683 : decode cL_law 683 = .ok (.aload_n 3, 1) := by decide +kernel
theorem dL_law_684 : decode cL_law 684 = .ok (.invokestatic 73, 3) := by decide +kernel
theorem dL_law_687 : decode cL_law 687 = .ok (.ifCond .ne 5, 3) := by decide +kernel
theorem dL_law_690 : decode cL_law 690 = .ok (.iconst 0, 1) := by decide +kernel
theorem dL_law_691 : decode cL_law 691 = .ok (.ireturn, 1) := by decide +kernel
theorem dL_law_692 : decode cL_law 692 = .ok (.iinc 4 1, 3) := by decide +kernel
theorem dL_law_695 : decode cL_law 695 = .ok (.goto (-645), 3) := by decide +kernel
theorem dL_law_698 : decode cL_law 698 = .ok (.aload_n 1, 1) := by decide +kernel
theorem dL_law_699 : decode cL_law 699 = .ok (.invokevirtual 77, 3) := by decide +kernel
theorem dL_law_7 : decode cL_law 7 = .ok (.astore_n 1, 1) := by decide +kernel
theorem dL_law_70 : decode cL_law 70 = .ok (.idiv, 1) := by decide +kernel
theorem dL_law_702 : decode cL_law 702 = .ok (.lstore 4, 2) := by decide +kernel
theorem dL_law_704 : decode cL_law 704 = .ok (.iconst 0, 1) := by decide +kernel
theorem dL_law_705 : decode cL_law 705 = .ok (.istore 6, 2) := by decide +kernel
theorem dL_law_707 : decode cL_law 707 = .ok (.iload 6, 2) := by decide +kernel
theorem dL_law_709 : decode cL_law 709 = .ok (.aload_n 1, 1) := by decide +kernel
theorem dL_law_71 : decode cL_law 71 = .ok (.iconst 2, 1) := by decide +kernel
theorem dL_law_710 : decode cL_law 710 = .ok (.iconst 0, 1) := by decide +kernel
theorem dL_law_711 : decode cL_law 711 = .ok (.invokevirtual 26, 3) := by decide +kernel
theorem dL_law_714 : decode cL_law 714 = .ok (.if_icmp .ge 30, 3) := by decide +kernel
theorem dL_law_717 : decode cL_law 717 = .ok (.aload_n 1, 1) := by decide +kernel
theorem dL_law_718 : decode cL_law 718 = .ok (.iload 6, 2) := by decide +kernel
theorem dL_law_72 : decode cL_law 72 = .ok (.imul, 1) := by decide +kernel
theorem dL_law_720 : decode cL_law 720 = .ok (.invokevirtual 81, 3) := by decide +kernel
theorem dL_law_723 : decode cL_law 723 = .ok (.ifCond .eq 15, 3) := by decide +kernel
theorem dL_law_726 : decode cL_law 726 = .ok (.aload_n 1, 1) := by decide +kernel
theorem dL_law_727 : decode cL_law 727 = .ok (.iload 6, 2) := by decide +kernel
theorem dL_law_729 : decode cL_law 729 = .ok (.iconst 0, 1) := by decide +kernel
theorem dL_law_73 : decode cL_law 73 = .ok (.ishr, 1) := by decide +kernel
theorem dL_law_730 : decode cL_law 730 = .ok (.invokevirtual 33, 3) := by decide +kernel
theorem dL_law_733 : decode cL_law 733 = .ok (.ifCond .ne 5, 3) := by decide +kernel
theorem dL_law_736 : decode cL_law 736 = .ok (.iconst 0, 1) := by decide +kernel
theorem dL_law_737 : decode cL_law 737 = .ok (.ireturn, 1) := by decide +kernel
theorem dL_law_738 : decode cL_law 738 = .ok (.iinc 6 1, 3) := by decide +kernel
theorem dL_law_74 : decode cL_law 74 = .ok (.bipush 7, 2) := by decide +kernel
theorem dL_law_741 : decode cL_law 741 = .ok (.goto (-34), 3) := by decide +kernel
theorem dL_law_744 : decode cL_law 744 = .ok (.aload_n 1, 1) := by decide +kernel
theorem dL_law_745 : decode cL_law 745 = .ok (.invokevirtual 77, 3) := by decide +kernel
theorem dL_law_748 : decode cL_law 748 = .ok (.lload 4, 2) := by decide +kernel
theorem dL_law_750 : decode cL_law 750 = .ok (.lcmp, 1) := by decide +kernel
theorem dL_law_751 : decode cL_law 751 = .ok (.ifCond .ne 7, 3) := by decide +kernel
theorem dL_law_754 : decode cL_law 754 = .ok (.iconst 1, 1) := by decide +kernel
theorem dL_law_755 : decode cL_law 755 = .ok (.goto 4, 3) := by decide +kernel
theorem dL_law_758 : decode cL_law 758 = .ok (.iconst 0, 1) := by decide +kernel
theorem dL_law_759 : decode cL_law 759 = .ok (.ireturn, 1) := by decide +kernel
theorem dL_law_76 : decode cL_law 76 = .ok (.iload 4, 2) := by decide +kernel
theorem dL_law_78 : decode cL_law 78 = .ok (.imul, 1) := by decide +kernel
theorem dL_law_79 : decode cL_law 79 = .ok (.iadd, 1) := by decide +kernel
theorem dL_law_8 : decode cL_law 8 = .ok (.sipush 200, 3) := by decide +kernel
theorem dL_law_80 : decode cL_law 80 = .ok (.istore 5, 2) := by decide +kernel
theorem dL_law_82 : decode cL_law 82 = .ok (.iload 5, 2) := by decide +kernel
theorem dL_law_84 : decode cL_law 84 = .ok (.iconst 3, 1) := by decide +kernel
theorem dL_law_85 : decode cL_law 85 = .ok (.ishr, 1) := by decide +kernel
theorem dL_law_86 : decode cL_law 86 = .ok (.iconst 4, 1) := by decide +kernel
theorem dL_law_87 : decode cL_law 87 = .ok (.invokestatic 18, 3) := by decide +kernel
theorem dL_law_90 : decode cL_law 90 = .ok (.istore 6, 2) := by decide +kernel
theorem dL_law_92 : decode cL_law 92 = .ok (.iload 5, 2) := by decide +kernel
theorem dL_law_94 : decode cL_law 94 = .ok (.iconst 5, 1) := by decide +kernel
theorem dL_law_95 : decode cL_law 95 = .ok (.ishr, 1) := by decide +kernel
theorem dL_law_96 : decode cL_law 96 = .ok (.iconst 4, 1) := by decide +kernel
theorem dL_law_97 : decode cL_law 97 = .ok (.invokestatic 18, 3) := by decide +kernel
theorem dX9_make_0 : decode cX9_make 0 = .ok (.iload_n 1, 1) := by decide +kernel
theorem dX9_make_1 : decode cX9_make 1 = .ok (.invokestatic 90, 3) := by decide +kernel
theorem dX9_make_10 : decode cX9_make 10 = .ok (.if_icmp .gt 17, 3) := by decide +kernel
theorem dX9_make_100 : decode cX9_make 100 = .ok (.if_icmp .ne 19, 3) := by decide +kernel
theorem dX9_make_103 : decode cX9_make 103 = .ok (.aload_n 0, 1) := by decide +kernel
theorem dX9_make_104 : decode cX9_make 104 = .ok (.iconst 1, 1) := by decide +kernel
theorem dX9_make_105 : decode cX9_make 105 = .ok (.invokevirtual 114, 3) := by decide +kernel
theorem dX9_make_108 : decode cX9_make 108 = .ok (.pop, 1) := by decide +kernel
theorem dX9_make_109 : decode cX9_make 109 = .ok (.aload_n 0, 1) := by decide +kernel
theorem dX9_make_110 : decode cX9_make 110 = .ok (.getfield 26, 3) := by decide +kernel
theorem dX9_make_113 : decode cX9_make 113 = .ok (.iload_n 3, 1) := by decide +kernel
theorem dX9_make_114 : decode cX9_make 114 = .ok (.invokevirtual 108, 3) := by decide +kernel
theorem dX9_make_117 : decode cX9_make 117 = .ok (.istore 4, 2) := by decide +kernel
theorem dX9_make_119 : decode cX9_make 119 = .ok (.iload 4, 2) := by decide +kernel
theorem dX9_make_121 : decode cX9_make 121 = .ok (.iconst (-1), 1) := by decide +kernel
theorem dX9_make_122 : decode cX9_make 122 = .ok (.if_icmp .ne 19, 3) := by decide +kernel
theorem dX9_make_125 : decode cX9_make 125 = .ok (.aload_n 0, 1) := by decide +kernel
theorem dX9_make_126 : decode cX9_make 126 = .ok (.iconst 0, 1) := by decide +kernel
theorem dX9_make_127 : decode cX9_make 127 = .ok (.invokevirtual 114, 3) := by decide +kernel
theorem dX9_make_13 : decode cX9_make 13 = .ok (.iload_n 3, 1) := by decide +kernel
theorem dX9_make_130 : decode cX9_make 130 = .ok (.pop, 1) := by decide +kernel
theorem dX9_make_131 : decode cX9_make 131 = .ok (.aload_n 0, 1) := by decide +kernel
theorem dX9_make_132 : decode cX9_make 132 = .ok (.getfield 26, 3) := by decide +kernel
theorem dX9_make_135 : decode cX9_make 135 = .ok (.iload_n 3, 1) := by decide +kernel
theorem dX9_make_136 : decode cX9_make 136 = .ok (.invokevirtual 108, 3) := by decide +kernel
theorem dX9_make_139 : decode cX9_make 139 = .ok (.istore 4, 2) := by decide +kernel
theorem dX9_make_14 : decode cX9_make 14 = .ok (.iload_n 2, 1) := by decide +kernel
theorem dX9_make_141 : decode cX9_make 141 = .ok (.iload 4, 2) := by decide +kernel
theorem dX9_make_143 : decode cX9_make 143 = .ok (.iconst (-1), 1) := by decide +kernel
theorem dX9_make_144 : decode cX9_make 144 = .ok (.if_icmp .ne 5, 3) := by decide +kernel
theorem dX9_make_147 : decode cX9_make 147 = .ok (.iconst (-1), 1) := by decide +kernel
theorem dX9_make_148 : decode cX9_make 148 = .ok (.ireturn, 1) := by decide +kernel
theorem dX9_make_149 : decode cX9_make 149 = .ok (.new 118, 3) := by decide +kernel
theorem dX9_make_15 : decode cX9_make 15 = .ok (.invokestatic 94, 3) := by decide +kernel
theorem dX9_make_152 : decode cX9_make 152 = .ok (.dup, 1) := by decide +kernel
theorem dX9_make_153 : decode cX9_make 153 = .ok (.aload_n 0, 1) := by decide +kernel
theorem dX9_make_154 : decode cX9_make 154 = .ok (.getfield 10, 3) := by decide +kernel
theorem dX9_make_157 : decode cX9_make 157 = .ok (.invokevirtual 103, 3) := by decide +kernel
theorem dX9_make_160 : decode cX9_make 160 = .ok (.iload_n 2, 1) := by decide +kernel
theorem dX9_make_161 : decode cX9_make 161 = .ok (.iload_n 3, 1) := by decide +kernel
theorem dX9_make_162 : decode cX9_make 162 = .ok (.invokespecial 120, 3) := by decide +kernel
theorem dX9_make_165 : decode cX9_make 165 = .ok (.astore 5, 2) := by decide +kernel
theorem dX9_make_167 : decode cX9_make 167 = .ok (.aload_n 0, 1) := by decide +kernel
theorem dX9_make_168 : decode cX9_make 168 = .ok (.getfield 10, 3) := by decide +kernel
theorem dX9_make_171 : decode cX9_make 171 = .ok (.aload 5, 2) := by decide +kernel
theorem dX9_make_173 : decode cX9_make 173 = .ok (.invokevirtual 123, 3) := by decide +kernel
theorem dX9_make_176 : decode cX9_make 176 = .ok (.aload_n 0, 1) := by decide +kernel
theorem dX9_make_177 : decode cX9_make 177 = .ok (.getfield 26, 3) := by decide +kernel
theorem dX9_make_18 : decode cX9_make 18 = .ok (.if_icmp .lt 9, 3) := by decide +kernel
theorem dX9_make_180 : decode cX9_make 180 = .ok (.aload 5, 2) := by decide +kernel
theorem dX9_make_182 : decode cX9_make 182 = .ok (.iload 4, 2) := by decide +kernel
theorem dX9_make_184 : decode cX9_make 184 = .ok (.invokevirtual 127, 3) := by decide +kernel
theorem dX9_make_187 : decode cX9_make 187 = .ok (.aload_n 0, 1) := by decide +kernel
theorem dX9_make_188 : decode cX9_make 188 = .ok (.getfield 42, 3) := by decide +kernel
theorem dX9_make_191 : decode cX9_make 191 = .ok (.aload 5, 2) := by decide +kernel
theorem dX9_make_193 : decode cX9_make 193 = .ok (.invokevirtual 131, 3) := by decide +kernel
theorem dX9_make_196 : decode cX9_make 196 = .ok (.aload_n 0, 1) := by decide +kernel
theorem dX9_make_197 : decode cX9_make 197 = .ok (.getfield 19, 3) := by decide +kernel
theorem dX9_make_200 : decode cX9_make 200 = .ok (.iload_n 1, 1) := by decide +kernel
theorem dX9_make_201 : decode cX9_make 201 = .ok (.aload 5, 2) := by decide +kernel
theorem dX9_make_203 : decode cX9_make 203 = .ok (.invokevirtual 134, 3) := by decide +kernel
theorem dX9_make_206 : decode cX9_make 206 = .ok (.aload 5, 2) := by decide +kernel
theorem dX9_make_208 : decode cX9_make 208 = .ok (.getfield 138, 3) := by decide +kernel
theorem dX9_make_21 : decode cX9_make 21 = .ok (.iload_n 3, 1) := by decide +kernel
theorem dX9_make_211 : decode cX9_make 211 = .ok (.ireturn, 1) := by decide +kernel
theorem dX9_make_22 : decode cX9_make 22 = .ok (.bipush 20, 2) := by decide +kernel
theorem dX9_make_24 : decode cX9_make 24 = .ok (.if_icmp .le 13, 3) := by decide +kernel
theorem dX9_make_27 : decode cX9_make 27 = .ok (.new 98, 3) := by decide +kernel
theorem dX9_make_37 : decode cX9_make 37 = .ok (.aload_n 0, 1) := by decide +kernel
theorem dX9_make_38 : decode cX9_make 38 = .ok (.getfield 10, 3) := by decide +kernel
theorem dX9_make_4 : decode cX9_make 4 = .ok (.iload_n 2, 1) := by decide +kernel
theorem dX9_make_41 : decode cX9_make 41 = .ok (.invokevirtual 103, 3) := by decide +kernel
theorem dX9_make_44 : decode cX9_make 44 = .ok (.sipush 200, 3) := by decide +kernel
theorem dX9_make_47 : decode cX9_make 47 = .ok (.if_icmp .lt 13, 3) := by decide +kernel
theorem dX9_make_5 : decode cX9_make 5 = .ok (.ifCond .lt 22, 3) := by decide +kernel
theorem dX9_make_50 : decode cX9_make 50 = .ok (.new 75, 3) := by decide +kernel
theorem dX9_make_60 : decode cX9_make 60 = .ok (.aload_n 0, 1) := by decide +kernel
theorem dX9_make_61 : decode cX9_make 61 = .ok (.getfield 26, 3) := by decide +kernel
theorem dX9_make_64 : decode cX9_make 64 = .ok (.iload_n 3, 1) := by decide +kernel
theorem dX9_make_65 : decode cX9_make 65 = .ok (.invokevirtual 108, 3) := by decide +kernel
theorem dX9_make_68 : decode cX9_make 68 = .ok (.istore 4, 2) := by decide +kernel
theorem dX9_make_70 : decode cX9_make 70 = .ok (.iload 4, 2) := by decide +kernel
theorem dX9_make_72 : decode cX9_make 72 = .ok (.iconst (-1), 1) := by decide +kernel
theorem dX9_make_73 : decode cX9_make 73 = .ok (.if_icmp .ne 24, 3) := by decide +kernel
theorem dX9_make_76 : decode cX9_make 76 = .ok (.iload_n 3, 1) := by decide +kernel
theorem dX9_make_77 : decode cX9_make 77 = .ok (.bipush 12, 2) := by decide +kernel
theorem dX9_make_79 : decode cX9_make 79 = .ok (.if_icmp .ge 18, 3) := by decide +kernel
theorem dX9_make_8 : decode cX9_make 8 = .ok (.iload_n 2, 1) := by decide +kernel
theorem dX9_make_82 : decode cX9_make 82 = .ok (.aload_n 0, 1) := by decide +kernel
theorem dX9_make_83 : decode cX9_make 83 = .ok (.invokevirtual 111, 3) := by decide +kernel
theorem dX9_make_86 : decode cX9_make 86 = .ok (.pop, 1) := by decide +kernel
theorem dX9_make_87 : decode cX9_make 87 = .ok (.aload_n 0, 1) := by decide +kernel
theorem dX9_make_88 : decode cX9_make 88 = .ok (.getfield 26, 3) := by decide +kernel
theorem dX9_make_9 : decode cX9_make 9 = .ok (.iconst 4, 1) := by decide +kernel
theorem dX9_make_91 : decode cX9_make 91 = .ok (.iload_n 3, 1) := by decide +kernel
theorem dX9_make_92 : decode cX9_make 92 = .ok (.invokevirtual 108, 3) := by decide +kernel
theorem dX9_make_95 : decode cX9_make 95 = .ok (.istore 4, 2) := by decide +kernel
theorem dX9_make_97 : decode cX9_make 97 = .ok (.iload 4, 2) := by decide +kernel
theorem dX9_make_99 : decode cX9_make 99 = .ok (.iconst (-1), 1) := by decide +kernel
theorem mok_yX9_make : MOK yX9_make cX9_make 6 (some FieldType.int) 3 := ⟨w_365, w_1, by decide +kernel, by decide +kernel, by decide +kernel⟩

