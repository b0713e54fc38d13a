section
variable {l : Launch} {D : va_G} {cA : Nat → ClassId} {h0 : Nat} {ad : Ad_} {sh : Sh_} {P : Px_} {σ : St_}
theorem dX12_init_0 : decode cX12_init 0 = .ok (.aload_n 0, 1) := by decide +kernel
theorem dX12_init_1 : decode cX12_init 1 = .ok (.invokespecial 1, 3) := by decide +kernel
theorem dX12_init_4 : decode cX12_init 4 = .ok (.aload_n 0, 1) := by decide +kernel
theorem dX12_init_5 : decode cX12_init 5 = .ok (.sipush 1700, 3) := by decide +kernel
theorem dX12_init_8 : decode cX12_init 8 = .ok (.newarray .int, 2) := by decide +kernel
theorem dX12_init_10 : decode cX12_init 10 = .ok (.putfield 7, 3) := by decide +kernel
theorem dX12_init_13 : decode cX12_init 13 = .ok (.aload_n 0, 1) := by decide +kernel
theorem dX12_init_14 : decode cX12_init 14 = .ok (.iconst (-1), 1) := by decide +kernel
theorem dX12_init_15 : decode cX12_init 15 = .ok (.putfield 13, 3) := by decide +kernel
theorem dX12_init_18 : decode cX12_init 18 = .ok (.aload_n 0, 1) := by decide +kernel
theorem dX12_init_19 : decode cX12_init 19 = .ok (.bipush 32, 2) := by decide +kernel
theorem dX12_init_21 : decode cX12_init 21 = .ok (.newarray .long, 2) := by decide +kernel
theorem dX12_init_23 : decode cX12_init 23 = .ok (.putfield 17, 3) := by decide +kernel
theorem dX12_init_26 : decode cX12_init 26 = .ok (.aload_n 0, 1) := by decide +kernel
theorem dX12_init_27 : decode cX12_init 27 = .ok (.bipush 9, 2) := by decide +kernel
theorem dX12_init_29 : decode cX12_init 29 = .ok (.newarray .int, 2) := by decide +kernel
theorem dX12_init_31 : decode cX12_init 31 = .ok (.putfield 21, 3) := by decide +kernel
theorem dX12_init_34 : decode cX12_init 34 = .ok (.aload_n 0, 1) := by decide +kernel
theorem dX12_init_35 : decode cX12_init 35 = .ok (.sipush 320, 3) := by decide +kernel
theorem dX12_init_38 : decode cX12_init 38 = .ok (.newarray .int, 2) := by decide +kernel
theorem dX12_init_40 : decode cX12_init 40 = .ok (.putfield 24, 3) := by decide +kernel
theorem dX12_init_43 : decode cX12_init 43 = .ok (.aload_n 0, 1) := by decide +kernel
theorem dX12_init_44 : decode cX12_init 44 = .ok (.sipush 320, 3) := by decide +kernel
theorem dX12_init_47 : decode cX12_init 47 = .ok (.newarray .int, 2) := by decide +kernel
theorem dX12_init_49 : decode cX12_init 49 = .ok (.putfield 27, 3) := by decide +kernel
theorem dX12_init_52 : decode cX12_init 52 = .ok (.aload_n 0, 1) := by decide +kernel
theorem dX12_init_53 : decode cX12_init 53 = .ok (.sipush 320, 3) := by decide +kernel
theorem dX12_init_56 : decode cX12_init 56 = .ok (.newarray .int, 2) := by decide +kernel
theorem dX12_init_58 : decode cX12_init 58 = .ok (.putfield 30, 3) := by decide +kernel
theorem dX12_init_61 : decode cX12_init 61 = .ok (.aload_n 0, 1) := by decide +kernel
theorem dX12_init_62 : decode cX12_init 62 = .ok (.sipush 320, 3) := by decide +kernel
theorem dX12_init_65 : decode cX12_init 65 = .ok (.newarray .int, 2) := by decide +kernel
theorem dX12_init_67 : decode cX12_init 67 = .ok (.putfield 33, 3) := by decide +kernel
theorem dX12_init_70 : decode cX12_init 70 = .ok (.aload_n 0, 1) := by decide +kernel
theorem dX12_init_71 : decode cX12_init 71 = .ok (.sipush 160, 3) := by decide +kernel
theorem dX12_init_74 : decode cX12_init 74 = .ok (.newarray .int, 2) := by decide +kernel
theorem dX12_init_76 : decode cX12_init 76 = .ok (.putfield 36, 3) := by decide +kernel
theorem dX12_init_79 : decode cX12_init 79 = .ok (.aload_n 0, 1) := by decide +kernel
theorem dX12_init_80 : decode cX12_init 80 = .ok (.bipush 64, 2) := by decide +kernel
theorem dX12_init_82 : decode cX12_init 82 = .ok (.newarray .int, 2) := by decide +kernel
theorem dX12_init_84 : decode cX12_init 84 = .ok (.putfield 39, 3) := by decide +kernel
theorem dX12_init_87 : decode cX12_init 87 = .ok (.aload_n 0, 1) := by decide +kernel
theorem dX12_init_88 : decode cX12_init 88 = .ok (.bipush 7, 2) := by decide +kernel
theorem dX12_init_90 : decode cX12_init 90 = .ok (.newarray .int, 2) := by decide +kernel
theorem dX12_init_92 : decode cX12_init 92 = .ok (.putfield 42, 3) := by decide +kernel
theorem dX12_init_95 : decode cX12_init 95 = .ok (.aload_n 0, 1) := by decide +kernel
theorem dX12_init_96 : decode cX12_init 96 = .ok (.bipush 10, 2) := by decide +kernel
theorem dX12_init_98 : decode cX12_init 98 = .ok (.newarray .int, 2) := by decide +kernel
theorem dX12_init_100 : decode cX12_init 100 = .ok (.putfield 45, 3) := by decide +kernel
theorem dX12_init_103 : decode cX12_init 103 = .ok (.aload_n 0, 1) := by decide +kernel
theorem dX12_init_104 : decode cX12_init 104 = .ok (.bipush 10, 2) := by decide +kernel
theorem dX12_init_106 : decode cX12_init 106 = .ok (.newarray .int, 2) := by decide +kernel
theorem dX12_init_108 : decode cX12_init 108 = .ok (.putfield 48, 3) := by decide +kernel
theorem dX12_init_111 : decode cX12_init 111 = .ok (.aload_n 0, 1) := by decide +kernel
theorem dX12_init_112 : decode cX12_init 112 = .ok (.bipush 10, 2) := by decide +kernel
theorem dX12_init_114 : decode cX12_init 114 = .ok (.newarray .int, 2) := by decide +kernel
theorem dX12_init_116 : decode cX12_init 116 = .ok (.putfield 51, 3) := by decide +kernel
theorem dX12_init_119 : decode cX12_init 119 = .ok (.aload_n 0, 1) := by decide +kernel
theorem dX12_init_120 : decode cX12_init 120 = .ok (.bipush 10, 2) := by decide +kernel
theorem dX12_init_122 : decode cX12_init 122 = .ok (.newarray .int, 2) := by decide +kernel
theorem dX12_init_124 : decode cX12_init 124 = .ok (.putfield 54, 3) := by decide +kernel
theorem dX12_init_127 : decode cX12_init 127 = .ok (.aload_n 0, 1) := by decide +kernel
theorem dX12_init_128 : decode cX12_init 128 = .ok (.iconst 5, 1) := by decide +kernel
theorem dX12_init_129 : decode cX12_init 129 = .ok (.newarray .int, 2) := by decide +kernel
theorem dX12_init_131 : decode cX12_init 131 = .ok (.putfield 57, 3) := by decide +kernel
theorem dX12_init_134 : decode cX12_init 134 = .ok (.aload_n 0, 1) := by decide +kernel
theorem dX12_init_135 : decode cX12_init 135 = .ok (.iconst 5, 1) := by decide +kernel
theorem dX12_init_136 : decode cX12_init 136 = .ok (.newarray .int, 2) := by decide +kernel
theorem dX12_init_138 : decode cX12_init 138 = .ok (.putfield 60, 3) := by decide +kernel
theorem dX12_init_141 : decode cX12_init 141 = .ok (.aload_n 0, 1) := by decide +kernel
theorem dX12_init_142 : decode cX12_init 142 = .ok (.iconst 4, 1) := by decide +kernel
theorem dX12_init_143 : decode cX12_init 143 = .ok (.newarray .int, 2) := by decide +kernel
theorem dX12_init_145 : decode cX12_init 145 = .ok (.putfield 63, 3) := by decide +kernel
theorem dX12_init_148 : decode cX12_init 148 = .ok (.aload_n 0, 1) := by decide +kernel
theorem dX12_init_149 : decode cX12_init 149 = .ok (.iconst 4, 1) := by decide +kernel
theorem dX12_init_150 : decode cX12_init 150 = .ok (.newarray .int, 2) := by decide +kernel
theorem dX12_init_152 : decode cX12_init 152 = .ok (.putfield 66, 3) := by decide +kernel
theorem dX12_init_155 : decode cX12_init 155 = .ok (.aload_n 0, 1) := by decide +kernel
theorem dX12_init_156 : decode cX12_init 156 = .ok (.bipush 90, 2) := by decide +kernel
theorem dX12_init_158 : decode cX12_init 158 = .ok (.newarray .int, 2) := by decide +kernel
theorem dX12_init_160 : decode cX12_init 160 = .ok (.putfield 69, 3) := by decide +kernel
theorem dX12_init_163 : decode cX12_init 163 = .ok (.aload_n 0, 1) := by decide +kernel
theorem dX12_init_164 : decode cX12_init 164 = .ok (.bipush 10, 2) := by decide +kernel
theorem dX12_init_166 : decode cX12_init 166 = .ok (.newarray .int, 2) := by decide +kernel
theorem dX12_init_168 : decode cX12_init 168 = .ok (.putfield 72, 3) := by decide +kernel
theorem dX12_init_171 : decode cX12_init 171 = .ok (.aload_n 0, 1) := by decide +kernel
theorem dX12_init_172 : decode cX12_init 172 = .ok (.bipush 10, 2) := by decide +kernel
theorem dX12_init_174 : decode cX12_init 174 = .ok (.newarray .int, 2) := by decide +kernel
theorem dX12_init_176 : decode cX12_init 176 = .ok (.putfield 75, 3) := by decide +kernel
theorem dX12_init_179 : decode cX12_init 179 = .ok (.aload_n 0, 1) := by decide +kernel
theorem dX12_init_180 : decode cX12_init 180 = .ok (.bipush 10, 2) := by decide +kernel
theorem dX12_init_182 : decode cX12_init 182 = .ok (.newarray .int, 2) := by decide +kernel
theorem dX12_init_184 : decode cX12_init 184 = .ok (.putfield 78, 3) := by decide +kernel
theorem dX12_init_187 : decode cX12_init 187 = .ok (.aload_n 0, 1) := by decide +kernel
theorem dX12_init_188 : decode cX12_init 188 = .ok (.bipush 10, 2) := by decide +kernel
theorem dX12_init_190 : decode cX12_init 190 = .ok (.newarray .int, 2) := by decide +kernel
theorem dX12_init_192 : decode cX12_init 192 = .ok (.putfield 81, 3) := by decide +kernel
theorem dX12_init_195 : decode cX12_init 195 = .ok (.aload_n 0, 1) := by decide +kernel
theorem dX12_init_196 : decode cX12_init 196 = .ok (.iconst 5, 1) := by decide +kernel
theorem dX12_init_197 : decode cX12_init 197 = .ok (.newarray .int, 2) := by decide +kernel
theorem dX12_init_199 : decode cX12_init 199 = .ok (.putfield 84, 3) := by decide +kernel
theorem dX12_init_202 : decode cX12_init 202 = .ok (.aload_n 0, 1) := by decide +kernel
theorem dX12_init_203 : decode cX12_init 203 = .ok (.iconst 5, 1) := by decide +kernel
theorem dX12_init_204 : decode cX12_init 204 = .ok (.newarray .int, 2) := by decide +kernel
theorem dX12_init_206 : decode cX12_init 206 = .ok (.putfield 87, 3) := by decide +kernel
theorem dX12_init_209 : decode cX12_init 209 = .ok (.aload_n 0, 1) := by decide +kernel
theorem dX12_init_210 : decode cX12_init 210 = .ok (.iconst 4, 1) := by decide +kernel
theorem dX12_init_211 : decode cX12_init 211 = .ok (.newarray .int, 2) := by decide +kernel
theorem dX12_init_213 : decode cX12_init 213 = .ok (.putfield 90, 3) := by decide +kernel
theorem dX12_init_216 : decode cX12_init 216 = .ok (.aload_n 0, 1) := by decide +kernel
theorem dX12_init_217 : decode cX12_init 217 = .ok (.iconst 4, 1) := by decide +kernel
theorem dX12_init_218 : decode cX12_init 218 = .ok (.newarray .int, 2) := by decide +kernel
theorem dX12_init_220 : decode cX12_init 220 = .ok (.putfield 93, 3) := by decide +kernel
theorem dX12_init_223 : decode cX12_init 223 = .ok (.aload_n 0, 1) := by decide +kernel
theorem dX12_init_224 : decode cX12_init 224 = .ok (.bipush 90, 2) := by decide +kernel
theorem dX12_init_226 : decode cX12_init 226 = .ok (.newarray .int, 2) := by decide +kernel
theorem dX12_init_228 : decode cX12_init 228 = .ok (.putfield 96, 3) := by decide +kernel
theorem dX12_init_231 : decode cX12_init 231 = .ok (.aload_n 0, 1) := by decide +kernel
theorem dX12_init_232 : decode cX12_init 232 = .ok (.bipush 6, 2) := by decide +kernel
theorem dX12_init_234 : decode cX12_init 234 = .ok (.putfield 99, 3) := by decide +kernel
theorem dX12_init_237 : decode cX12_init 237 = .ok (.aload_n 0, 1) := by decide +kernel
theorem dX12_init_238 : decode cX12_init 238 = .ok (.bipush 20, 2) := by decide +kernel
theorem dX12_init_240 : decode cX12_init 240 = .ok (.newarray .int, 2) := by decide +kernel
theorem dX12_init_242 : decode cX12_init 242 = .ok (.putfield 102, 3) := by decide +kernel
theorem dX12_init_245 : decode cX12_init 245 = .ok (.aload_n 0, 1) := by decide +kernel
theorem dX12_init_246 : decode cX12_init 246 = .ok (.bipush 10, 2) := by decide +kernel
theorem dX12_init_248 : decode cX12_init 248 = .ok (.newarray .int, 2) := by decide +kernel
theorem dX12_init_250 : decode cX12_init 250 = .ok (.putfield 105, 3) := by decide +kernel
theorem dX12_init_253 : decode cX12_init 253 = .ok (.aload_n 0, 1) := by decide +kernel
theorem dX12_init_254 : decode cX12_init 254 = .ok (.iconst (-1), 1) := by decide +kernel
theorem dX12_init_255 : decode cX12_init 255 = .ok (.putfield 108, 3) := by decide +kernel
theorem dX12_init_258 : decode cX12_init 258 = .ok (.aload_n 0, 1) := by decide +kernel
theorem dX12_init_259 : decode cX12_init 259 = .ok (.iconst (-1), 1) := by decide +kernel
theorem dX12_init_260 : decode cX12_init 260 = .ok (.putfield 111, 3) := by decide +kernel
theorem dX12_init_263 : decode cX12_init 263 = .ok (.aload_n 0, 1) := by decide +kernel
theorem dX12_init_264 : decode cX12_init 264 = .ok (.sipush 800, 3) := by decide +kernel
theorem dX12_init_267 : decode cX12_init 267 = .ok (.newarray .int, 2) := by decide +kernel
theorem dX12_init_269 : decode cX12_init 269 = .ok (.putfield 114, 3) := by decide +kernel
theorem dX12_init_272 : decode cX12_init 272 = .ok (.aload_n 0, 1) := by decide +kernel
theorem dX12_init_273 : decode cX12_init 273 = .ok (.bipush 32, 2) := by decide +kernel
theorem dX12_init_275 : decode cX12_init 275 = .ok (.newarray .int, 2) := by decide +kernel
theorem dX12_init_277 : decode cX12_init 277 = .ok (.putfield 117, 3) := by decide +kernel
theorem dX12_init_280 : decode cX12_init 280 = .ok (.aload_n 0, 1) := by decide +kernel
theorem dX12_init_281 : decode cX12_init 281 = .ok (.sipush 20020, 3) := by decide +kernel
theorem dX12_init_284 : decode cX12_init 284 = .ok (.newarray .int, 2) := by decide +kernel
theorem dX12_init_286 : decode cX12_init 286 = .ok (.putfield 120, 3) := by decide +kernel
theorem dX12_init_289 : decode cX12_init 289 = .ok (.aload_n 0, 1) := by decide +kernel
theorem dX12_init_290 : decode cX12_init 290 = .ok (.sipush 2002, 3) := by decide +kernel
theorem dX12_init_293 : decode cX12_init 293 = .ok (.newarray .int, 2) := by decide +kernel
theorem dX12_init_295 : decode cX12_init 295 = .ok (.putfield 123, 3) := by decide +kernel
theorem dX12_init_298 : decode cX12_init 298 = .ok (.aload_n 0, 1) := by decide +kernel
theorem dX12_init_299 : decode cX12_init 299 = .ok (.sipush 2002, 3) := by decide +kernel
theorem dX12_init_302 : decode cX12_init 302 = .ok (.newarray .int, 2) := by decide +kernel
theorem dX12_init_304 : decode cX12_init 304 = .ok (.putfield 126, 3) := by decide +kernel
theorem dX12_init_307 : decode cX12_init 307 = .ok (.aload_n 0, 1) := by decide +kernel
theorem dX12_init_308 : decode cX12_init 308 = .ok (.bipush 10, 2) := by decide +kernel
theorem dX12_init_310 : decode cX12_init 310 = .ok (.newarray .int, 2) := by decide +kernel
theorem dX12_init_312 : decode cX12_init 312 = .ok (.putfield 129, 3) := by decide +kernel
theorem dX12_init_315 : decode cX12_init 315 = .ok (.aload_n 0, 1) := by decide +kernel
theorem dX12_init_316 : decode cX12_init 316 = .ok (.bipush 30, 2) := by decide +kernel
theorem dX12_init_318 : decode cX12_init 318 = .ok (.newarray .int, 2) := by decide +kernel
theorem dX12_init_320 : decode cX12_init 320 = .ok (.putfield 132, 3) := by decide +kernel
theorem dX12_init_323 : decode cX12_init 323 = .ok (.aload_n 0, 1) := by decide +kernel
theorem dX12_init_324 : decode cX12_init 324 = .ok (.bipush 30, 2) := by decide +kernel
theorem dX12_init_326 : decode cX12_init 326 = .ok (.newarray .int, 2) := by decide +kernel
theorem dX12_init_328 : decode cX12_init 328 = .ok (.putfield 135, 3) := by decide +kernel
theorem dX12_init_331 : decode cX12_init 331 = .ok (.aload_n 0, 1) := by decide +kernel
theorem dX12_init_332 : decode cX12_init 332 = .ok (.bipush 30, 2) := by decide +kernel
theorem dX12_init_334 : decode cX12_init 334 = .ok (.newarray .int, 2) := by decide +kernel
theorem dX12_init_336 : decode cX12_init 336 = .ok (.putfield 138, 3) := by decide +kernel
theorem dX12_init_339 : decode cX12_init 339 = .ok (.aload_n 0, 1) := by decide +kernel
theorem dX12_init_340 : decode cX12_init 340 = .ok (.bipush 30, 2) := by decide +kernel
theorem dX12_init_342 : decode cX12_init 342 = .ok (.newarray .int, 2) := by decide +kernel
theorem dX12_init_344 : decode cX12_init 344 = .ok (.putfield 141, 3) := by decide +kernel
theorem dX12_init_347 : decode cX12_init 347 = .ok (.aload_n 0, 1) := by decide +kernel
theorem dX12_init_348 : decode cX12_init 348 = .ok (.bipush 30, 2) := by decide +kernel
theorem dX12_init_350 : decode cX12_init 350 = .ok (.newarray .int, 2) := by decide +kernel
theorem dX12_init_352 : decode cX12_init 352 = .ok (.putfield 144, 3) := by decide +kernel
theorem dX12_init_355 : decode cX12_init 355 = .ok (.aload_n 0, 1) := by decide +kernel
theorem dX12_init_356 : decode cX12_init 356 = .ok (.bipush 30, 2) := by decide +kernel
theorem dX12_init_358 : decode cX12_init 358 = .ok (.newarray .int, 2) := by decide +kernel
theorem dX12_init_360 : decode cX12_init 360 = .ok (.putfield 147, 3) := by decide +kernel
theorem dX12_init_363 : decode cX12_init 363 = .ok (.aload_n 0, 1) := by decide +kernel
theorem dX12_init_364 : decode cX12_init 364 = .ok (.bipush 30, 2) := by decide +kernel
theorem dX12_init_366 : decode cX12_init 366 = .ok (.newarray .boolean, 2) := by decide +kernel
theorem dX12_init_368 : decode cX12_init 368 = .ok (.putfield 150, 3) := by decide +kernel
theorem dX12_init_371 : decode cX12_init 371 = .ok (.aload_n 0, 1) := by decide +kernel
theorem dX12_init_372 : decode cX12_init 372 = .ok (.bipush 100, 2) := by decide +kernel
theorem dX12_init_374 : decode cX12_init 374 = .ok (.newarray .boolean, 2) := by decide +kernel
theorem dX12_init_376 : decode cX12_init 376 = .ok (.putfield 154, 3) := by decide +kernel
theorem dX12_init_379 : decode cX12_init 379 = .ok (.aload_n 0, 1) := by decide +kernel
theorem dX12_init_380 : decode cX12_init 380 = .ok (.iconst 3, 1) := by decide +kernel
theorem dX12_init_381 : decode cX12_init 381 = .ok (.newarray .boolean, 2) := by decide +kernel
theorem dX12_init_383 : decode cX12_init 383 = .ok (.putfield 157, 3) := by decide +kernel
theorem dX12_init_386 : decode cX12_init 386 = .ok (.aload_n 0, 1) := by decide +kernel
theorem dX12_init_387 : decode cX12_init 387 = .ok (.bipush 60, 2) := by decide +kernel
theorem dX12_init_389 : decode cX12_init 389 = .ok (.newarray .int, 2) := by decide +kernel
theorem dX12_init_391 : decode cX12_init 391 = .ok (.putfield 160, 3) := by decide +kernel
theorem dX12_init_394 : decode cX12_init 394 = .ok (.iconst 0, 1) := by decide +kernel
theorem dX12_init_395 : decode cX12_init 395 = .ok (.istore_n 1, 1) := by decide +kernel
theorem dX12_init_396 : decode cX12_init 396 = .ok (.iload_n 1, 1) := by decide +kernel
theorem dX12_init_397 : decode cX12_init 397 = .ok (.bipush 10, 2) := by decide +kernel
theorem dX12_init_399 : decode cX12_init 399 = .ok (.if_icmp .ge 16, 3) := by decide +kernel
theorem dX12_init_402 : decode cX12_init 402 = .ok (.aload_n 0, 1) := by decide +kernel
theorem dX12_init_403 : decode cX12_init 403 = .ok (.getfield 102, 3) := by decide +kernel
theorem dX12_init_406 : decode cX12_init 406 = .ok (.iload_n 1, 1) := by decide +kernel
theorem dX12_init_407 : decode cX12_init 407 = .ok (.iconst (-1), 1) := by decide +kernel
theorem dX12_init_408 : decode cX12_init 408 = .ok (.iastore, 1) := by decide +kernel
theorem dX12_init_409 : decode cX12_init 409 = .ok (.iinc 1 1, 3) := by decide +kernel
theorem dX12_init_412 : decode cX12_init 412 = .ok (.goto (-16), 3) := by decide +kernel
theorem dX12_init_415 : decode cX12_init 415 = .ok (.return_, 1) := by decide +kernel
theorem wo_RX12_1 : Cond.methodLink RX12 1 objectInit ∈ TB := tbm 1414 (by decide +kernel) (by decide +kernel)
theorem fpf_12_0 : Fpk TX12 0 true (.array .int) := ⟨rfl, by decide +kernel⟩
theorem fpf_12_10 : Fpk TX12 10 true (.array .long) := ⟨rfl, by decide +kernel⟩
theorem fpf_12_11 : Fpk TX12 11 true (.array .int) := ⟨rfl, by decide +kernel⟩
theorem fpf_12_13 : Fpk TX12 13 true (.array .int) := ⟨rfl, by decide +kernel⟩
theorem fpf_12_14 : Fpk TX12 14 true (.array .int) := ⟨rfl, by decide +kernel⟩
theorem fpf_12_15 : Fpk TX12 15 true (.array .int) := ⟨rfl, by decide +kernel⟩
theorem fpf_12_16 : Fpk TX12 16 true (.array .int) := ⟨rfl, by decide +kernel⟩
theorem fpf_12_17 : Fpk TX12 17 true (.array .int) := ⟨rfl, by decide +kernel⟩
theorem fpf_12_18 : Fpk TX12 18 true (.array .int) := ⟨rfl, by decide +kernel⟩
theorem fpf_12_26 : Fpk TX12 26 true (.array .int) := ⟨rfl, by decide +kernel⟩
theorem fpf_12_27 : Fpk TX12 27 true (.array .int) := ⟨rfl, by decide +kernel⟩
theorem fpf_12_28 : Fpk TX12 28 true (.array .int) := ⟨rfl, by decide +kernel⟩
theorem fpf_12_29 : Fpk TX12 29 true (.array .int) := ⟨rfl, by decide +kernel⟩
theorem fpf_12_30 : Fpk TX12 30 true (.array .int) := ⟨rfl, by decide +kernel⟩
theorem fpf_12_31 : Fpk TX12 31 true (.array .int) := ⟨rfl, by decide +kernel⟩
theorem fpf_12_32 : Fpk TX12 32 true (.array .int) := ⟨rfl, by decide +kernel⟩
theorem fpf_12_33 : Fpk TX12 33 true (.array .int) := ⟨rfl, by decide +kernel⟩
theorem fpf_12_34 : Fpk TX12 34 true (.array .int) := ⟨rfl, by decide +kernel⟩
theorem fpf_12_35 : Fpk TX12 35 true (.array .int) := ⟨rfl, by decide +kernel⟩
theorem fpf_12_36 : Fpk TX12 36 true (.array .int) := ⟨rfl, by decide +kernel⟩
theorem fpf_12_37 : Fpk TX12 37 true (.array .int) := ⟨rfl, by decide +kernel⟩
theorem fpf_12_38 : Fpk TX12 38 true (.array .int) := ⟨rfl, by decide +kernel⟩
theorem fpf_12_39 : Fpk TX12 39 true (.array .int) := ⟨rfl, by decide +kernel⟩
theorem fpf_12_40 : Fpk TX12 40 true (.array .int) := ⟨rfl, by decide +kernel⟩
theorem fpf_12_41 : Fpk TX12 41 true (.array .int) := ⟨rfl, by decide +kernel⟩
theorem fpf_12_42 : Fpk TX12 42 true (.array .int) := ⟨rfl, by decide +kernel⟩
theorem fpf_12_43 : Fpk TX12 43 true (.array .int) := ⟨rfl, by decide +kernel⟩
theorem fpf_12_44 : Fpk TX12 44 true (.array .int) := ⟨rfl, by decide +kernel⟩
theorem fpf_12_60 : Fpk TX12 60 true (.array .int) := ⟨rfl, by decide +kernel⟩
theorem fpf_12_61 : Fpk TX12 61 true (.array .int) := ⟨rfl, by decide +kernel⟩
theorem fpf_12_67 : Fpk TX12 67 true (.array .int) := ⟨rfl, by decide +kernel⟩
theorem fpf_12_70 : Fpk TX12 70 true (.array .int) := ⟨rfl, by decide +kernel⟩
theorem fpf_12_72 : Fpk TX12 72 true (.array .int) := ⟨rfl, by decide +kernel⟩
theorem fpf_12_73 : Fpk TX12 73 true (.array .int) := ⟨rfl, by decide +kernel⟩
theorem fpf_12_74 : Fpk TX12 74 true (.array .int) := ⟨rfl, by decide +kernel⟩
theorem fpf_12_75 : Fpk TX12 75 true (.array .int) := ⟨rfl, by decide +kernel⟩
theorem fpf_12_79 : Fpk TX12 79 true (.array .int) := ⟨rfl, by decide +kernel⟩
theorem fpf_12_80 : Fpk TX12 80 true (.array .int) := ⟨rfl, by decide +kernel⟩
theorem fpf_12_81 : Fpk TX12 81 true (.array .int) := ⟨rfl, by decide +kernel⟩
theorem fpf_12_82 : Fpk TX12 82 true (.array .int) := ⟨rfl, by decide +kernel⟩
theorem fpf_12_83 : Fpk TX12 83 true (.array .int) := ⟨rfl, by decide +kernel⟩
theorem fpf_12_84 : Fpk TX12 84 true (.array .int) := ⟨rfl, by decide +kernel⟩
theorem fpf_12_85 : Fpk TX12 85 true (.array .boolean) := ⟨rfl, by decide +kernel⟩
theorem fpf_12_88 : Fpk TX12 88 true (.array .boolean) := ⟨rfl, by decide +kernel⟩
theorem fpf_12_89 : Fpk TX12 89 true (.array .boolean) := ⟨rfl, by decide +kernel⟩
theorem fpf_12_90 : Fpk TX12 90 true (.array .int) := ⟨rfl, by decide +kernel⟩
def cS12_0 (ρ : Rh_) : Rh_ :=
 (pR (nwR (pR (nwR (pR (nwR (pR (nwR (pI (pR (nwR ρ 234) 233 0 234) 233 3 (-1 : Int32)) 235) 233 10 235) 236) 233 11 236) 237) 233 13 237) 238) 233 14 238)
set_option maxHeartbeats 4000000 in
set_option maxRecDepth 20000 in
theorem k12_0 {f : Unit → Out_} (ρ : Rh_) (kk : Tj l D cA h0 ad RX12 cX12_init 2 none true 2 46 28817 f 5 2381 (SHL.take 239) (cS12_0 ρ).1 (cS12_0 ρ).2 52 [(0, .ref (h0 + 233))] [] (some ())) : Tj l D cA h0 ad RX12 cX12_init 2 none true 2 46 28817 f 0 0 (SHL.take 234) (ρ).1 (ρ).2 0 [(0, .ref (h0 + 233))] [] (some ()) := by
  refine tj_aload_n (q := 1) dX12_init_0 rfl (i := 0) rfl (pl := 0) rfl ?_
  refine c_obj (q := 4) wo_RX12_1 wo_i wo_c dX12_init_1 rfl (Nat.le_of_ble_eq_true rfl) (Nat.le_of_ble_eq_true rfl) ?_
  refine tj_aload_n (q := 5) dX12_init_4 rfl (i := 0) rfl (pl := 0) rfl ?_
  refine tj_sipush (q := 8) (v := 1700) dX12_init_5 rfl (by decide) ?_
  refine c_newaI (q := 10) (N := 1700) (by decide) (by decide) shl_234 wa_int (Nat.le_of_ble_eq_true rfl) (Nat.le_of_ble_eq_true rfl) dX12_init_8 rfl ?_
  refine c_putF (q := 13) (j := 234) (tk_at (i := 233) shl_233 (by decide)) fok_12_0 tok_12 fpf_12_0 wl_RX12_7 dX12_init_10 rfl rfl rfl rfl ?_
  refine tj_aload_n (q := 14) dX12_init_13 rfl (i := 0) rfl (pl := 0) rfl ?_
  refine tj_iconst (q := 15) (v := (-1)) dX12_init_14 rfl (by decide) ?_
  refine c_putI (q := 18) (tk_at (i := 233) shl_233 (by decide)) fok_12_3 tok_12 fpk_12_3 wl_RX12_13 dX12_init_15 rfl rfl rfl ?_
  refine tj_aload_n (q := 19) dX12_init_18 rfl (i := 0) rfl (pl := 0) rfl ?_
  refine tj_bipush (q := 21) (v := 32) dX12_init_19 rfl (by decide) ?_
  refine c_newaL (q := 23) (N := 32) (by decide) (by decide) shl_235 wa_long (Nat.le_of_ble_eq_true rfl) (Nat.le_of_ble_eq_true rfl) dX12_init_21 rfl ?_
  refine c_putF (q := 26) (j := 235) (tk_at (i := 233) shl_233 (by decide)) fok_12_10 tok_12 fpf_12_10 wl_RX12_17 dX12_init_23 rfl rfl rfl rfl ?_
  refine tj_aload_n (q := 27) dX12_init_26 rfl (i := 0) rfl (pl := 0) rfl ?_
  refine tj_bipush (q := 29) (v := 9) dX12_init_27 rfl (by decide) ?_
  refine c_newaI (q := 31) (N := 9) (by decide) (by decide) shl_236 wa_int (Nat.le_of_ble_eq_true rfl) (Nat.le_of_ble_eq_true rfl) dX12_init_29 rfl ?_
  refine c_putF (q := 34) (j := 236) (tk_at (i := 233) shl_233 (by decide)) fok_12_11 tok_12 fpf_12_11 wl_RX12_21 dX12_init_31 rfl rfl rfl rfl ?_
  refine tj_aload_n (q := 35) dX12_init_34 rfl (i := 0) rfl (pl := 0) rfl ?_
  refine tj_sipush (q := 38) (v := 320) dX12_init_35 rfl (by decide) ?_
  refine c_newaI (q := 40) (N := 320) (by decide) (by decide) shl_237 wa_int (Nat.le_of_ble_eq_true rfl) (Nat.le_of_ble_eq_true rfl) dX12_init_38 rfl ?_
  refine c_putF (q := 43) (j := 237) (tk_at (i := 233) shl_233 (by decide)) fok_12_13 tok_12 fpf_12_13 wl_RX12_24 dX12_init_40 rfl rfl rfl rfl ?_
  refine tj_aload_n (q := 44) dX12_init_43 rfl (i := 0) rfl (pl := 0) rfl ?_
  refine tj_sipush (q := 47) (v := 320) dX12_init_44 rfl (by decide) ?_
  refine c_newaI (q := 49) (N := 320) (by decide) (by decide) shl_238 wa_int (Nat.le_of_ble_eq_true rfl) (Nat.le_of_ble_eq_true rfl) dX12_init_47 rfl ?_
  refine c_putF (q := 52) (j := 238) (tk_at (i := 233) shl_233 (by decide)) fok_12_14 tok_12 fpf_12_14 wl_RX12_27 dX12_init_49 rfl rfl rfl rfl ?_
  exact kk

def cS12_1 (ρ : Rh_) : Rh_ :=
 (pR (nwR (pR (nwR (pR (nwR (pR (nwR (pR (nwR (pR (nwR ρ 239) 233 15 239) 240) 233 16 240) 241) 233 17 241) 242) 233 18 242) 243) 233 26 243) 244) 233 27 244)
set_option maxHeartbeats 4000000 in
set_option maxRecDepth 20000 in
theorem k12_1 {f : Unit → Out_} (ρ : Rh_) (kk : Tj l D cA h0 ad RX12 cX12_init 2 none true 2 46 28817 f 11 3262 (SHL.take 245) (cS12_1 ρ).1 (cS12_1 ρ).2 103 [(0, .ref (h0 + 233))] [] (some ())) : Tj l D cA h0 ad RX12 cX12_init 2 none true 2 46 28817 f 5 2381 (SHL.take 239) (ρ).1 (ρ).2 52 [(0, .ref (h0 + 233))] [] (some ()) := by
  refine tj_aload_n (q := 53) dX12_init_52 rfl (i := 0) rfl (pl := 0) rfl ?_
  refine tj_sipush (q := 56) (v := 320) dX12_init_53 rfl (by decide) ?_
  refine c_newaI (q := 58) (N := 320) (by decide) (by decide) shl_239 wa_int (Nat.le_of_ble_eq_true rfl) (Nat.le_of_ble_eq_true rfl) dX12_init_56 rfl ?_
  refine c_putF (q := 61) (j := 239) (tk_at (i := 233) shl_233 (by decide)) fok_12_15 tok_12 fpf_12_15 wl_RX12_30 dX12_init_58 rfl rfl rfl rfl ?_
  refine tj_aload_n (q := 62) dX12_init_61 rfl (i := 0) rfl (pl := 0) rfl ?_
  refine tj_sipush (q := 65) (v := 320) dX12_init_62 rfl (by decide) ?_
  refine c_newaI (q := 67) (N := 320) (by decide) (by decide) shl_240 wa_int (Nat.le_of_ble_eq_true rfl) (Nat.le_of_ble_eq_true rfl) dX12_init_65 rfl ?_
  refine c_putF (q := 70) (j := 240) (tk_at (i := 233) shl_233 (by decide)) fok_12_16 tok_12 fpf_12_16 wl_RX12_33 dX12_init_67 rfl rfl rfl rfl ?_
  refine tj_aload_n (q := 71) dX12_init_70 rfl (i := 0) rfl (pl := 0) rfl ?_
  refine tj_sipush (q := 74) (v := 160) dX12_init_71 rfl (by decide) ?_
  refine c_newaI (q := 76) (N := 160) (by decide) (by decide) shl_241 wa_int (Nat.le_of_ble_eq_true rfl) (Nat.le_of_ble_eq_true rfl) dX12_init_74 rfl ?_
  refine c_putF (q := 79) (j := 241) (tk_at (i := 233) shl_233 (by decide)) fok_12_17 tok_12 fpf_12_17 wl_RX12_36 dX12_init_76 rfl rfl rfl rfl ?_
  refine tj_aload_n (q := 80) dX12_init_79 rfl (i := 0) rfl (pl := 0) rfl ?_
  refine tj_bipush (q := 82) (v := 64) dX12_init_80 rfl (by decide) ?_
  refine c_newaI (q := 84) (N := 64) (by decide) (by decide) shl_242 wa_int (Nat.le_of_ble_eq_true rfl) (Nat.le_of_ble_eq_true rfl) dX12_init_82 rfl ?_
  refine c_putF (q := 87) (j := 242) (tk_at (i := 233) shl_233 (by decide)) fok_12_18 tok_12 fpf_12_18 wl_RX12_39 dX12_init_84 rfl rfl rfl rfl ?_
  refine tj_aload_n (q := 88) dX12_init_87 rfl (i := 0) rfl (pl := 0) rfl ?_
  refine tj_bipush (q := 90) (v := 7) dX12_init_88 rfl (by decide) ?_
  refine c_newaI (q := 92) (N := 7) (by decide) (by decide) shl_243 wa_int (Nat.le_of_ble_eq_true rfl) (Nat.le_of_ble_eq_true rfl) dX12_init_90 rfl ?_
  refine c_putF (q := 95) (j := 243) (tk_at (i := 233) shl_233 (by decide)) fok_12_26 tok_12 fpf_12_26 wl_RX12_42 dX12_init_92 rfl rfl rfl rfl ?_
  refine tj_aload_n (q := 96) dX12_init_95 rfl (i := 0) rfl (pl := 0) rfl ?_
  refine tj_bipush (q := 98) (v := 10) dX12_init_96 rfl (by decide) ?_
  refine c_newaI (q := 100) (N := 10) (by decide) (by decide) shl_244 wa_int (Nat.le_of_ble_eq_true rfl) (Nat.le_of_ble_eq_true rfl) dX12_init_98 rfl ?_
  refine c_putF (q := 103) (j := 244) (tk_at (i := 233) shl_233 (by decide)) fok_12_27 tok_12 fpf_12_27 wl_RX12_45 dX12_init_100 rfl rfl rfl rfl ?_
  exact kk

def cS12_2 (ρ : Rh_) : Rh_ :=
 (pR (nwR (pR (nwR (pR (nwR (pR (nwR (pR (nwR (pR (nwR ρ 245) 233 28 245) 246) 233 29 246) 247) 233 30 247) 248) 233 31 248) 249) 233 32 249) 250) 233 33 250)
set_option maxHeartbeats 4000000 in
set_option maxRecDepth 20000 in
theorem k12_2 {f : Unit → Out_} (ρ : Rh_) (kk : Tj l D cA h0 ad RX12 cX12_init 2 none true 2 46 28817 f 17 3306 (SHL.take 251) (cS12_2 ρ).1 (cS12_2 ρ).2 148 [(0, .ref (h0 + 233))] [] (some ())) : Tj l D cA h0 ad RX12 cX12_init 2 none true 2 46 28817 f 11 3262 (SHL.take 245) (ρ).1 (ρ).2 103 [(0, .ref (h0 + 233))] [] (some ()) := by
  refine tj_aload_n (q := 104) dX12_init_103 rfl (i := 0) rfl (pl := 0) rfl ?_
  refine tj_bipush (q := 106) (v := 10) dX12_init_104 rfl (by decide) ?_
  refine c_newaI (q := 108) (N := 10) (by decide) (by decide) shl_245 wa_int (Nat.le_of_ble_eq_true rfl) (Nat.le_of_ble_eq_true rfl) dX12_init_106 rfl ?_
  refine c_putF (q := 111) (j := 245) (tk_at (i := 233) shl_233 (by decide)) fok_12_28 tok_12 fpf_12_28 wl_RX12_48 dX12_init_108 rfl rfl rfl rfl ?_
  refine tj_aload_n (q := 112) dX12_init_111 rfl (i := 0) rfl (pl := 0) rfl ?_
  refine tj_bipush (q := 114) (v := 10) dX12_init_112 rfl (by decide) ?_
  refine c_newaI (q := 116) (N := 10) (by decide) (by decide) shl_246 wa_int (Nat.le_of_ble_eq_true rfl) (Nat.le_of_ble_eq_true rfl) dX12_init_114 rfl ?_
  refine c_putF (q := 119) (j := 246) (tk_at (i := 233) shl_233 (by decide)) fok_12_29 tok_12 fpf_12_29 wl_RX12_51 dX12_init_116 rfl rfl rfl rfl ?_
  refine tj_aload_n (q := 120) dX12_init_119 rfl (i := 0) rfl (pl := 0) rfl ?_
  refine tj_bipush (q := 122) (v := 10) dX12_init_120 rfl (by decide) ?_
  refine c_newaI (q := 124) (N := 10) (by decide) (by decide) shl_247 wa_int (Nat.le_of_ble_eq_true rfl) (Nat.le_of_ble_eq_true rfl) dX12_init_122 rfl ?_
  refine c_putF (q := 127) (j := 247) (tk_at (i := 233) shl_233 (by decide)) fok_12_30 tok_12 fpf_12_30 wl_RX12_54 dX12_init_124 rfl rfl rfl rfl ?_
  refine tj_aload_n (q := 128) dX12_init_127 rfl (i := 0) rfl (pl := 0) rfl ?_
  refine tj_iconst (q := 129) (v := 5) dX12_init_128 rfl (by decide) ?_
  refine c_newaI (q := 131) (N := 5) (by decide) (by decide) shl_248 wa_int (Nat.le_of_ble_eq_true rfl) (Nat.le_of_ble_eq_true rfl) dX12_init_129 rfl ?_
  refine c_putF (q := 134) (j := 248) (tk_at (i := 233) shl_233 (by decide)) fok_12_31 tok_12 fpf_12_31 wl_RX12_57 dX12_init_131 rfl rfl rfl rfl ?_
  refine tj_aload_n (q := 135) dX12_init_134 rfl (i := 0) rfl (pl := 0) rfl ?_
  refine tj_iconst (q := 136) (v := 5) dX12_init_135 rfl (by decide) ?_
  refine c_newaI (q := 138) (N := 5) (by decide) (by decide) shl_249 wa_int (Nat.le_of_ble_eq_true rfl) (Nat.le_of_ble_eq_true rfl) dX12_init_136 rfl ?_
  refine c_putF (q := 141) (j := 249) (tk_at (i := 233) shl_233 (by decide)) fok_12_32 tok_12 fpf_12_32 wl_RX12_60 dX12_init_138 rfl rfl rfl rfl ?_
  refine tj_aload_n (q := 142) dX12_init_141 rfl (i := 0) rfl (pl := 0) rfl ?_
  refine tj_iconst (q := 143) (v := 4) dX12_init_142 rfl (by decide) ?_
  refine c_newaI (q := 145) (N := 4) (by decide) (by decide) shl_250 wa_int (Nat.le_of_ble_eq_true rfl) (Nat.le_of_ble_eq_true rfl) dX12_init_143 rfl ?_
  refine c_putF (q := 148) (j := 250) (tk_at (i := 233) shl_233 (by decide)) fok_12_33 tok_12 fpf_12_33 wl_RX12_63 dX12_init_145 rfl rfl rfl rfl ?_
  exact kk

def cS12_3 (ρ : Rh_) : Rh_ :=
 (pR (nwR (pR (nwR (pR (nwR (pR (nwR (pR (nwR (pR (nwR ρ 251) 233 34 251) 252) 233 35 252) 253) 233 36 253) 254) 233 37 254) 255) 233 38 255) 256) 233 39 256)
set_option maxHeartbeats 4000000 in
set_option maxRecDepth 20000 in
theorem k12_3 {f : Unit → Out_} (ρ : Rh_) (kk : Tj l D cA h0 ad RX12 cX12_init 2 none true 2 46 28817 f 23 3440 (SHL.take 257) (cS12_3 ρ).1 (cS12_3 ρ).2 195 [(0, .ref (h0 + 233))] [] (some ())) : Tj l D cA h0 ad RX12 cX12_init 2 none true 2 46 28817 f 17 3306 (SHL.take 251) (ρ).1 (ρ).2 148 [(0, .ref (h0 + 233))] [] (some ()) := by
  refine tj_aload_n (q := 149) dX12_init_148 rfl (i := 0) rfl (pl := 0) rfl ?_
  refine tj_iconst (q := 150) (v := 4) dX12_init_149 rfl (by decide) ?_
  refine c_newaI (q := 152) (N := 4) (by decide) (by decide) shl_251 wa_int (Nat.le_of_ble_eq_true rfl) (Nat.le_of_ble_eq_true rfl) dX12_init_150 rfl ?_
  refine c_putF (q := 155) (j := 251) (tk_at (i := 233) shl_233 (by decide)) fok_12_34 tok_12 fpf_12_34 wl_RX12_66 dX12_init_152 rfl rfl rfl rfl ?_
  refine tj_aload_n (q := 156) dX12_init_155 rfl (i := 0) rfl (pl := 0) rfl ?_
  refine tj_bipush (q := 158) (v := 90) dX12_init_156 rfl (by decide) ?_
  refine c_newaI (q := 160) (N := 90) (by decide) (by decide) shl_252 wa_int (Nat.le_of_ble_eq_true rfl) (Nat.le_of_ble_eq_true rfl) dX12_init_158 rfl ?_
  refine c_putF (q := 163) (j := 252) (tk_at (i := 233) shl_233 (by decide)) fok_12_35 tok_12 fpf_12_35 wl_RX12_69 dX12_init_160 rfl rfl rfl rfl ?_
  refine tj_aload_n (q := 164) dX12_init_163 rfl (i := 0) rfl (pl := 0) rfl ?_
  refine tj_bipush (q := 166) (v := 10) dX12_init_164 rfl (by decide) ?_
  refine c_newaI (q := 168) (N := 10) (by decide) (by decide) shl_253 wa_int (Nat.le_of_ble_eq_true rfl) (Nat.le_of_ble_eq_true rfl) dX12_init_166 rfl ?_
  refine c_putF (q := 171) (j := 253) (tk_at (i := 233) shl_233 (by decide)) fok_12_36 tok_12 fpf_12_36 wl_RX12_72 dX12_init_168 rfl rfl rfl rfl ?_
  refine tj_aload_n (q := 172) dX12_init_171 rfl (i := 0) rfl (pl := 0) rfl ?_
  refine tj_bipush (q := 174) (v := 10) dX12_init_172 rfl (by decide) ?_
  refine c_newaI (q := 176) (N := 10) (by decide) (by decide) shl_254 wa_int (Nat.le_of_ble_eq_true rfl) (Nat.le_of_ble_eq_true rfl) dX12_init_174 rfl ?_
  refine c_putF (q := 179) (j := 254) (tk_at (i := 233) shl_233 (by decide)) fok_12_37 tok_12 fpf_12_37 wl_RX12_75 dX12_init_176 rfl rfl rfl rfl ?_
  refine tj_aload_n (q := 180) dX12_init_179 rfl (i := 0) rfl (pl := 0) rfl ?_
  refine tj_bipush (q := 182) (v := 10) dX12_init_180 rfl (by decide) ?_
  refine c_newaI (q := 184) (N := 10) (by decide) (by decide) shl_255 wa_int (Nat.le_of_ble_eq_true rfl) (Nat.le_of_ble_eq_true rfl) dX12_init_182 rfl ?_
  refine c_putF (q := 187) (j := 255) (tk_at (i := 233) shl_233 (by decide)) fok_12_38 tok_12 fpf_12_38 wl_RX12_78 dX12_init_184 rfl rfl rfl rfl ?_
  refine tj_aload_n (q := 188) dX12_init_187 rfl (i := 0) rfl (pl := 0) rfl ?_
  refine tj_bipush (q := 190) (v := 10) dX12_init_188 rfl (by decide) ?_
  refine c_newaI (q := 192) (N := 10) (by decide) (by decide) shl_256 wa_int (Nat.le_of_ble_eq_true rfl) (Nat.le_of_ble_eq_true rfl) dX12_init_190 rfl ?_
  refine c_putF (q := 195) (j := 256) (tk_at (i := 233) shl_233 (by decide)) fok_12_39 tok_12 fpf_12_39 wl_RX12_81 dX12_init_192 rfl rfl rfl rfl ?_
  exact kk

def cS12_4 (ρ : Rh_) : Rh_ :=
 (pI (pR (nwR (pR (nwR (pR (nwR (pR (nwR (pR (nwR ρ 257) 233 40 257) 258) 233 41 258) 259) 233 42 259) 260) 233 43 260) 261) 233 44 261) 233 55 (6 : Int32))
set_option maxHeartbeats 4000000 in
set_option maxRecDepth 20000 in
theorem k12_4 {f : Unit → Out_} (ρ : Rh_) (kk : Tj l D cA h0 ad RX12 cX12_init 2 none true 2 46 28817 f 28 3548 (SHL.take 262) (cS12_4 ρ).1 (cS12_4 ρ).2 237 [(0, .ref (h0 + 233))] [] (some ())) : Tj l D cA h0 ad RX12 cX12_init 2 none true 2 46 28817 f 23 3440 (SHL.take 257) (ρ).1 (ρ).2 195 [(0, .ref (h0 + 233))] [] (some ()) := by
  refine tj_aload_n (q := 196) dX12_init_195 rfl (i := 0) rfl (pl := 0) rfl ?_
  refine tj_iconst (q := 197) (v := 5) dX12_init_196 rfl (by decide) ?_
  refine c_newaI (q := 199) (N := 5) (by decide) (by decide) shl_257 wa_int (Nat.le_of_ble_eq_true rfl) (Nat.le_of_ble_eq_true rfl) dX12_init_197 rfl ?_
  refine c_putF (q := 202) (j := 257) (tk_at (i := 233) shl_233 (by decide)) fok_12_40 tok_12 fpf_12_40 wl_RX12_84 dX12_init_199 rfl rfl rfl rfl ?_
  refine tj_aload_n (q := 203) dX12_init_202 rfl (i := 0) rfl (pl := 0) rfl ?_
  refine tj_iconst (q := 204) (v := 5) dX12_init_203 rfl (by decide) ?_
  refine c_newaI (q := 206) (N := 5) (by decide) (by decide) shl_258 wa_int (Nat.le_of_ble_eq_true rfl) (Nat.le_of_ble_eq_true rfl) dX12_init_204 rfl ?_
  refine c_putF (q := 209) (j := 258) (tk_at (i := 233) shl_233 (by decide)) fok_12_41 tok_12 fpf_12_41 wl_RX12_87 dX12_init_206 rfl rfl rfl rfl ?_
  refine tj_aload_n (q := 210) dX12_init_209 rfl (i := 0) rfl (pl := 0) rfl ?_
  refine tj_iconst (q := 211) (v := 4) dX12_init_210 rfl (by decide) ?_
  refine c_newaI (q := 213) (N := 4) (by decide) (by decide) shl_259 wa_int (Nat.le_of_ble_eq_true rfl) (Nat.le_of_ble_eq_true rfl) dX12_init_211 rfl ?_
  refine c_putF (q := 216) (j := 259) (tk_at (i := 233) shl_233 (by decide)) fok_12_42 tok_12 fpf_12_42 wl_RX12_90 dX12_init_213 rfl rfl rfl rfl ?_
  refine tj_aload_n (q := 217) dX12_init_216 rfl (i := 0) rfl (pl := 0) rfl ?_
  refine tj_iconst (q := 218) (v := 4) dX12_init_217 rfl (by decide) ?_
  refine c_newaI (q := 220) (N := 4) (by decide) (by decide) shl_260 wa_int (Nat.le_of_ble_eq_true rfl) (Nat.le_of_ble_eq_true rfl) dX12_init_218 rfl ?_
  refine c_putF (q := 223) (j := 260) (tk_at (i := 233) shl_233 (by decide)) fok_12_43 tok_12 fpf_12_43 wl_RX12_93 dX12_init_220 rfl rfl rfl rfl ?_
  refine tj_aload_n (q := 224) dX12_init_223 rfl (i := 0) rfl (pl := 0) rfl ?_
  refine tj_bipush (q := 226) (v := 90) dX12_init_224 rfl (by decide) ?_
  refine c_newaI (q := 228) (N := 90) (by decide) (by decide) shl_261 wa_int (Nat.le_of_ble_eq_true rfl) (Nat.le_of_ble_eq_true rfl) dX12_init_226 rfl ?_
  refine c_putF (q := 231) (j := 261) (tk_at (i := 233) shl_233 (by decide)) fok_12_44 tok_12 fpf_12_44 wl_RX12_96 dX12_init_228 rfl rfl rfl rfl ?_
  refine tj_aload_n (q := 232) dX12_init_231 rfl (i := 0) rfl (pl := 0) rfl ?_
  refine tj_bipush (q := 234) (v := 6) dX12_init_232 rfl (by decide) ?_
  refine c_putI (q := 237) (tk_at (i := 233) shl_233 (by decide)) fok_12_55 tok_12 fpk_12_55 wl_RX12_99 dX12_init_234 rfl rfl rfl ?_
  exact kk

def cS12_5 (ρ : Rh_) : Rh_ :=
 (pR (nwR (pR (nwR (pI (pI (pR (nwR (pR (nwR ρ 262) 233 60 262) 263) 233 61 263) 233 64 (-1 : Int32)) 233 65 (-1 : Int32)) 264) 233 67 264) 265) 233 70 265)
set_option maxHeartbeats 4000000 in
set_option maxRecDepth 20000 in
theorem k12_5 {f : Unit → Out_} (ρ : Rh_) (kk : Tj l D cA h0 ad RX12 cX12_init 2 none true 2 46 28817 f 32 4410 (SHL.take 266) (cS12_5 ρ).1 (cS12_5 ρ).2 280 [(0, .ref (h0 + 233))] [] (some ())) : Tj l D cA h0 ad RX12 cX12_init 2 none true 2 46 28817 f 28 3548 (SHL.take 262) (ρ).1 (ρ).2 237 [(0, .ref (h0 + 233))] [] (some ()) := by
  refine tj_aload_n (q := 238) dX12_init_237 rfl (i := 0) rfl (pl := 0) rfl ?_
  refine tj_bipush (q := 240) (v := 20) dX12_init_238 rfl (by decide) ?_
  refine c_newaI (q := 242) (N := 20) (by decide) (by decide) shl_262 wa_int (Nat.le_of_ble_eq_true rfl) (Nat.le_of_ble_eq_true rfl) dX12_init_240 rfl ?_
  refine c_putF (q := 245) (j := 262) (tk_at (i := 233) shl_233 (by decide)) fok_12_60 tok_12 fpf_12_60 wl_RX12_102 dX12_init_242 rfl rfl rfl rfl ?_
  refine tj_aload_n (q := 246) dX12_init_245 rfl (i := 0) rfl (pl := 0) rfl ?_
  refine tj_bipush (q := 248) (v := 10) dX12_init_246 rfl (by decide) ?_
  refine c_newaI (q := 250) (N := 10) (by decide) (by decide) shl_263 wa_int (Nat.le_of_ble_eq_true rfl) (Nat.le_of_ble_eq_true rfl) dX12_init_248 rfl ?_
  refine c_putF (q := 253) (j := 263) (tk_at (i := 233) shl_233 (by decide)) fok_12_61 tok_12 fpf_12_61 wl_RX12_105 dX12_init_250 rfl rfl rfl rfl ?_
  refine tj_aload_n (q := 254) dX12_init_253 rfl (i := 0) rfl (pl := 0) rfl ?_
  refine tj_iconst (q := 255) (v := (-1)) dX12_init_254 rfl (by decide) ?_
  refine c_putI (q := 258) (tk_at (i := 233) shl_233 (by decide)) fok_12_64 tok_12 fpk_12_64 wl_RX12_108 dX12_init_255 rfl rfl rfl ?_
  refine tj_aload_n (q := 259) dX12_init_258 rfl (i := 0) rfl (pl := 0) rfl ?_
  refine tj_iconst (q := 260) (v := (-1)) dX12_init_259 rfl (by decide) ?_
  refine c_putI (q := 263) (tk_at (i := 233) shl_233 (by decide)) fok_12_65 tok_12 fpk_12_65 wl_RX12_111 dX12_init_260 rfl rfl rfl ?_
  refine tj_aload_n (q := 264) dX12_init_263 rfl (i := 0) rfl (pl := 0) rfl ?_
  refine tj_sipush (q := 267) (v := 800) dX12_init_264 rfl (by decide) ?_
  refine c_newaI (q := 269) (N := 800) (by decide) (by decide) shl_264 wa_int (Nat.le_of_ble_eq_true rfl) (Nat.le_of_ble_eq_true rfl) dX12_init_267 rfl ?_
  refine c_putF (q := 272) (j := 264) (tk_at (i := 233) shl_233 (by decide)) fok_12_67 tok_12 fpf_12_67 wl_RX12_114 dX12_init_269 rfl rfl rfl rfl ?_
  refine tj_aload_n (q := 273) dX12_init_272 rfl (i := 0) rfl (pl := 0) rfl ?_
  refine tj_bipush (q := 275) (v := 32) dX12_init_273 rfl (by decide) ?_
  refine c_newaI (q := 277) (N := 32) (by decide) (by decide) shl_265 wa_int (Nat.le_of_ble_eq_true rfl) (Nat.le_of_ble_eq_true rfl) dX12_init_275 rfl ?_
  refine c_putF (q := 280) (j := 265) (tk_at (i := 233) shl_233 (by decide)) fok_12_70 tok_12 fpf_12_70 wl_RX12_117 dX12_init_277 rfl rfl rfl rfl ?_
  exact kk

def cS12_6 (ρ : Rh_) : Rh_ :=
 (pR (nwR (pR (nwR (pR (nwR (pR (nwR (pR (nwR (pR (nwR ρ 266) 233 72 266) 267) 233 73 267) 268) 233 74 268) 269) 233 75 269) 270) 233 79 270) 271) 233 80 271)
set_option maxHeartbeats 4000000 in
set_option maxRecDepth 20000 in
theorem k12_6 {f : Unit → Out_} (ρ : Rh_) (kk : Tj l D cA h0 ad RX12 cX12_init 2 none true 2 46 28817 f 38 28504 (SHL.take 272) (cS12_6 ρ).1 (cS12_6 ρ).2 331 [(0, .ref (h0 + 233))] [] (some ())) : Tj l D cA h0 ad RX12 cX12_init 2 none true 2 46 28817 f 32 4410 (SHL.take 266) (ρ).1 (ρ).2 280 [(0, .ref (h0 + 233))] [] (some ()) := by
  refine tj_aload_n (q := 281) dX12_init_280 rfl (i := 0) rfl (pl := 0) rfl ?_
  refine tj_sipush (q := 284) (v := 20020) dX12_init_281 rfl (by decide) ?_
  refine c_newaI (q := 286) (N := 20020) (by decide) (by decide) shl_266 wa_int (Nat.le_of_ble_eq_true rfl) (Nat.le_of_ble_eq_true rfl) dX12_init_284 rfl ?_
  refine c_putF (q := 289) (j := 266) (tk_at (i := 233) shl_233 (by decide)) fok_12_72 tok_12 fpf_12_72 wl_RX12_120 dX12_init_286 rfl rfl rfl rfl ?_
  refine tj_aload_n (q := 290) dX12_init_289 rfl (i := 0) rfl (pl := 0) rfl ?_
  refine tj_sipush (q := 293) (v := 2002) dX12_init_290 rfl (by decide) ?_
  refine c_newaI (q := 295) (N := 2002) (by decide) (by decide) shl_267 wa_int (Nat.le_of_ble_eq_true rfl) (Nat.le_of_ble_eq_true rfl) dX12_init_293 rfl ?_
  refine c_putF (q := 298) (j := 267) (tk_at (i := 233) shl_233 (by decide)) fok_12_73 tok_12 fpf_12_73 wl_RX12_123 dX12_init_295 rfl rfl rfl rfl ?_
  refine tj_aload_n (q := 299) dX12_init_298 rfl (i := 0) rfl (pl := 0) rfl ?_
  refine tj_sipush (q := 302) (v := 2002) dX12_init_299 rfl (by decide) ?_
  refine c_newaI (q := 304) (N := 2002) (by decide) (by decide) shl_268 wa_int (Nat.le_of_ble_eq_true rfl) (Nat.le_of_ble_eq_true rfl) dX12_init_302 rfl ?_
  refine c_putF (q := 307) (j := 268) (tk_at (i := 233) shl_233 (by decide)) fok_12_74 tok_12 fpf_12_74 wl_RX12_126 dX12_init_304 rfl rfl rfl rfl ?_
  refine tj_aload_n (q := 308) dX12_init_307 rfl (i := 0) rfl (pl := 0) rfl ?_
  refine tj_bipush (q := 310) (v := 10) dX12_init_308 rfl (by decide) ?_
  refine c_newaI (q := 312) (N := 10) (by decide) (by decide) shl_269 wa_int (Nat.le_of_ble_eq_true rfl) (Nat.le_of_ble_eq_true rfl) dX12_init_310 rfl ?_
  refine c_putF (q := 315) (j := 269) (tk_at (i := 233) shl_233 (by decide)) fok_12_75 tok_12 fpf_12_75 wl_RX12_129 dX12_init_312 rfl rfl rfl rfl ?_
  refine tj_aload_n (q := 316) dX12_init_315 rfl (i := 0) rfl (pl := 0) rfl ?_
  refine tj_bipush (q := 318) (v := 30) dX12_init_316 rfl (by decide) ?_
  refine c_newaI (q := 320) (N := 30) (by decide) (by decide) shl_270 wa_int (Nat.le_of_ble_eq_true rfl) (Nat.le_of_ble_eq_true rfl) dX12_init_318 rfl ?_
  refine c_putF (q := 323) (j := 270) (tk_at (i := 233) shl_233 (by decide)) fok_12_79 tok_12 fpf_12_79 wl_RX12_132 dX12_init_320 rfl rfl rfl rfl ?_
  refine tj_aload_n (q := 324) dX12_init_323 rfl (i := 0) rfl (pl := 0) rfl ?_
  refine tj_bipush (q := 326) (v := 30) dX12_init_324 rfl (by decide) ?_
  refine c_newaI (q := 328) (N := 30) (by decide) (by decide) shl_271 wa_int (Nat.le_of_ble_eq_true rfl) (Nat.le_of_ble_eq_true rfl) dX12_init_326 rfl ?_
  refine c_putF (q := 331) (j := 271) (tk_at (i := 233) shl_233 (by decide)) fok_12_80 tok_12 fpf_12_80 wl_RX12_135 dX12_init_328 rfl rfl rfl rfl ?_
  exact kk

def cS12_7 (ρ : Rh_) : Rh_ :=
 (pR (nwR (pR (nwR (pR (nwR (pR (nwR (pR (nwR (pR (nwR ρ 272) 233 81 272) 273) 233 82 273) 274) 233 83 274) 275) 233 84 275) 276) 233 85 276) 277) 233 88 277)
set_option maxHeartbeats 4000000 in
set_option maxRecDepth 20000 in
theorem k12_7 {f : Unit → Out_} (ρ : Rh_) (kk : Tj l D cA h0 ad RX12 cX12_init 2 none true 2 46 28817 f 44 28754 (SHL.take 278) (cS12_7 ρ).1 (cS12_7 ρ).2 379 [(0, .ref (h0 + 233))] [] (some ())) : Tj l D cA h0 ad RX12 cX12_init 2 none true 2 46 28817 f 38 28504 (SHL.take 272) (ρ).1 (ρ).2 331 [(0, .ref (h0 + 233))] [] (some ()) := by
  refine tj_aload_n (q := 332) dX12_init_331 rfl (i := 0) rfl (pl := 0) rfl ?_
  refine tj_bipush (q := 334) (v := 30) dX12_init_332 rfl (by decide) ?_
  refine c_newaI (q := 336) (N := 30) (by decide) (by decide) shl_272 wa_int (Nat.le_of_ble_eq_true rfl) (Nat.le_of_ble_eq_true rfl) dX12_init_334 rfl ?_
  refine c_putF (q := 339) (j := 272) (tk_at (i := 233) shl_233 (by decide)) fok_12_81 tok_12 fpf_12_81 wl_RX12_138 dX12_init_336 rfl rfl rfl rfl ?_
  refine tj_aload_n (q := 340) dX12_init_339 rfl (i := 0) rfl (pl := 0) rfl ?_
  refine tj_bipush (q := 342) (v := 30) dX12_init_340 rfl (by decide) ?_
  refine c_newaI (q := 344) (N := 30) (by decide) (by decide) shl_273 wa_int (Nat.le_of_ble_eq_true rfl) (Nat.le_of_ble_eq_true rfl) dX12_init_342 rfl ?_
  refine c_putF (q := 347) (j := 273) (tk_at (i := 233) shl_233 (by decide)) fok_12_82 tok_12 fpf_12_82 wl_RX12_141 dX12_init_344 rfl rfl rfl rfl ?_
  refine tj_aload_n (q := 348) dX12_init_347 rfl (i := 0) rfl (pl := 0) rfl ?_
  refine tj_bipush (q := 350) (v := 30) dX12_init_348 rfl (by decide) ?_
  refine c_newaI (q := 352) (N := 30) (by decide) (by decide) shl_274 wa_int (Nat.le_of_ble_eq_true rfl) (Nat.le_of_ble_eq_true rfl) dX12_init_350 rfl ?_
  refine c_putF (q := 355) (j := 274) (tk_at (i := 233) shl_233 (by decide)) fok_12_83 tok_12 fpf_12_83 wl_RX12_144 dX12_init_352 rfl rfl rfl rfl ?_
  refine tj_aload_n (q := 356) dX12_init_355 rfl (i := 0) rfl (pl := 0) rfl ?_
  refine tj_bipush (q := 358) (v := 30) dX12_init_356 rfl (by decide) ?_
  refine c_newaI (q := 360) (N := 30) (by decide) (by decide) shl_275 wa_int (Nat.le_of_ble_eq_true rfl) (Nat.le_of_ble_eq_true rfl) dX12_init_358 rfl ?_
  refine c_putF (q := 363) (j := 275) (tk_at (i := 233) shl_233 (by decide)) fok_12_84 tok_12 fpf_12_84 wl_RX12_147 dX12_init_360 rfl rfl rfl rfl ?_
  refine tj_aload_n (q := 364) dX12_init_363 rfl (i := 0) rfl (pl := 0) rfl ?_
  refine tj_bipush (q := 366) (v := 30) dX12_init_364 rfl (by decide) ?_
  refine c_newaZ (q := 368) (N := 30) (by decide) (by decide) shl_276 wa_boolean (Nat.le_of_ble_eq_true rfl) (Nat.le_of_ble_eq_true rfl) dX12_init_366 rfl ?_
  refine c_putF (q := 371) (j := 276) (tk_at (i := 233) shl_233 (by decide)) fok_12_85 tok_12 fpf_12_85 wl_RX12_150 dX12_init_368 rfl rfl rfl rfl ?_
  refine tj_aload_n (q := 372) dX12_init_371 rfl (i := 0) rfl (pl := 0) rfl ?_
  refine tj_bipush (q := 374) (v := 100) dX12_init_372 rfl (by decide) ?_
  refine c_newaZ (q := 376) (N := 100) (by decide) (by decide) shl_277 wa_boolean (Nat.le_of_ble_eq_true rfl) (Nat.le_of_ble_eq_true rfl) dX12_init_374 rfl ?_
  refine c_putF (q := 379) (j := 277) (tk_at (i := 233) shl_233 (by decide)) fok_12_88 tok_12 fpf_12_88 wl_RX12_154 dX12_init_376 rfl rfl rfl rfl ?_
  exact kk

def cS12_8 (ρ : Rh_) : Rh_ :=
 (pI (pR (nwR (pR (nwR ρ 278) 233 89 278) 279) 233 90 279) 262 0 (-1 : Int32))
set_option maxHeartbeats 4000000 in
set_option maxRecDepth 20000 in
theorem k12_8 {f : Unit → Out_} (ρ : Rh_) (hp_0_60 : ρ.1 233 60 = some (262)) (kk : Tj l D cA h0 ad RX12 cX12_init 2 none true 2 46 28817 f 46 28817 (SHL.take 280) (cS12_8 ρ).1 (cS12_8 ρ).2 402 [(1, .int 1), (0, .ref (h0 + 233))] [] (some ())) : Tj l D cA h0 ad RX12 cX12_init 2 none true 2 46 28817 f 44 28754 (SHL.take 278) (ρ).1 (ρ).2 379 [(0, .ref (h0 + 233))] [] (some ()) := by
  refine tj_aload_n (q := 380) dX12_init_379 rfl (i := 0) rfl (pl := 0) rfl ?_
  refine tj_iconst (q := 381) (v := 3) dX12_init_380 rfl (by decide) ?_
  refine c_newaZ (q := 383) (N := 3) (by decide) (by decide) shl_278 wa_boolean (Nat.le_of_ble_eq_true rfl) (Nat.le_of_ble_eq_true rfl) dX12_init_381 rfl ?_
  refine c_putF (q := 386) (j := 278) (tk_at (i := 233) shl_233 (by decide)) fok_12_89 tok_12 fpf_12_89 wl_RX12_157 dX12_init_383 rfl rfl rfl rfl ?_
  refine tj_aload_n (q := 387) dX12_init_386 rfl (i := 0) rfl (pl := 0) rfl ?_
  refine tj_bipush (q := 389) (v := 60) dX12_init_387 rfl (by decide) ?_
  refine c_newaI (q := 391) (N := 60) (by decide) (by decide) shl_279 wa_int (Nat.le_of_ble_eq_true rfl) (Nat.le_of_ble_eq_true rfl) dX12_init_389 rfl ?_
  refine c_putF (q := 394) (j := 279) (tk_at (i := 233) shl_233 (by decide)) fok_12_90 tok_12 fpf_12_90 wl_RX12_160 dX12_init_391 rfl rfl rfl rfl ?_
  refine tj_iconst (q := 395) (v := 0) dX12_init_394 rfl (by decide) ?_
  refine tj_istore_n (q := 396) dX12_init_395 rfl (i := 1) rfl (by decide) rfl ?_
  refine tj_iload_n (q := 397) dX12_init_396 rfl (i := 1) rfl (pl := 0) rfl ?_
  refine tj_bipush (q := 399) (v := 10) dX12_init_397 rfl (by decide) ?_
  refine c_geN (tgt := 415) (q := 402) (by decide) dX12_init_399 (by decide) rfl ?_
  refine tj_aload_n (q := 403) dX12_init_402 rfl (i := 0) rfl (pl := 1) rfl ?_
  refine tj_getR (k := 60) (q := 406) (j := 262) (tk_at (i := 233) shl_233 (by decide)) (show _ = some (262) from hp_0_60) fok_12_60 wl_RX12_102 dX12_init_403 rfl ?_
  refine tj_iload_n (q := 407) dX12_init_406 rfl (i := 1) rfl (pl := 0) rfl ?_
  refine tj_iconst (q := 408) (v := (-1)) dX12_init_407 rfl (by decide) ?_
  refine c_iast (q := 409) (k := 0) (N := 20) (t := 262) (tk_at (i := 262) shl_262 (by decide)) (by decide) (by decide) (by decide) dX12_init_408 rfl ?_
  refine tj_iinc (q := 412) (v := 1) dX12_init_409 rfl (pl := 0) rfl (by decide) (by decide) rfl ?_
  refine tj_goto (q := 396) dX12_init_412 (by decide) ?_
  refine tj_iload_n (q := 397) dX12_init_396 rfl (i := 1) rfl (pl := 0) rfl ?_
  refine tj_bipush (q := 399) (v := 10) dX12_init_397 rfl (by decide) ?_
  refine c_geN (tgt := 415) (q := 402) (by decide) dX12_init_399 (by decide) rfl ?_
  exact kk

def cS12_9 (ρ : Rh_) : Rh_ :=
 (pI (pI (pI ρ 262 1 (-1 : Int32)) 262 2 (-1 : Int32)) 262 3 (-1 : Int32))
set_option maxHeartbeats 4000000 in
set_option maxRecDepth 20000 in
theorem k12_9 {f : Unit → Out_} (ρ : Rh_) (hp_0_60 : ρ.1 233 60 = some (262)) (kk : Tj l D cA h0 ad RX12 cX12_init 2 none true 2 46 28817 f 46 28817 (SHL.take 280) (cS12_9 ρ).1 (cS12_9 ρ).2 409 [(1, .int 3), (0, .ref (h0 + 233))] [] (some ())) : Tj l D cA h0 ad RX12 cX12_init 2 none true 2 46 28817 f 46 28817 (SHL.take 280) (ρ).1 (ρ).2 402 [(1, .int 1), (0, .ref (h0 + 233))] [] (some ()) := by
  refine tj_aload_n (q := 403) dX12_init_402 rfl (i := 0) rfl (pl := 1) rfl ?_
  refine tj_getR (k := 60) (q := 406) (j := 262) (tk_at (i := 233) shl_233 (by decide)) (show _ = some (262) from hp_0_60) fok_12_60 wl_RX12_102 dX12_init_403 rfl ?_
  refine tj_iload_n (q := 407) dX12_init_406 rfl (i := 1) rfl (pl := 0) rfl ?_
  refine tj_iconst (q := 408) (v := (-1)) dX12_init_407 rfl (by decide) ?_
  refine c_iast (q := 409) (k := 1) (N := 20) (t := 262) (tk_at (i := 262) shl_262 (by decide)) (by decide) (by decide) (by decide) dX12_init_408 rfl ?_
  refine tj_iinc (q := 412) (v := 2) dX12_init_409 rfl (pl := 0) rfl (by decide) (by decide) rfl ?_
  refine tj_goto (q := 396) dX12_init_412 (by decide) ?_
  refine tj_iload_n (q := 397) dX12_init_396 rfl (i := 1) rfl (pl := 0) rfl ?_
  refine tj_bipush (q := 399) (v := 10) dX12_init_397 rfl (by decide) ?_
  refine c_geN (tgt := 415) (q := 402) (by decide) dX12_init_399 (by decide) rfl ?_
  refine tj_aload_n (q := 403) dX12_init_402 rfl (i := 0) rfl (pl := 1) rfl ?_
  refine tj_getR (k := 60) (q := 406) (j := 262) (tk_at (i := 233) shl_233 (by decide)) (show _ = some (262) from hp_0_60) fok_12_60 wl_RX12_102 dX12_init_403 rfl ?_
  refine tj_iload_n (q := 407) dX12_init_406 rfl (i := 1) rfl (pl := 0) rfl ?_
  refine tj_iconst (q := 408) (v := (-1)) dX12_init_407 rfl (by decide) ?_
  refine c_iast (q := 409) (k := 2) (N := 20) (t := 262) (tk_at (i := 262) shl_262 (by decide)) (by decide) (by decide) (by decide) dX12_init_408 rfl ?_
  refine tj_iinc (q := 412) (v := 3) dX12_init_409 rfl (pl := 0) rfl (by decide) (by decide) rfl ?_
  refine tj_goto (q := 396) dX12_init_412 (by decide) ?_
  refine tj_iload_n (q := 397) dX12_init_396 rfl (i := 1) rfl (pl := 0) rfl ?_
  refine tj_bipush (q := 399) (v := 10) dX12_init_397 rfl (by decide) ?_
  refine c_geN (tgt := 415) (q := 402) (by decide) dX12_init_399 (by decide) rfl ?_
  refine tj_aload_n (q := 403) dX12_init_402 rfl (i := 0) rfl (pl := 1) rfl ?_
  refine tj_getR (k := 60) (q := 406) (j := 262) (tk_at (i := 233) shl_233 (by decide)) (show _ = some (262) from hp_0_60) fok_12_60 wl_RX12_102 dX12_init_403 rfl ?_
  refine tj_iload_n (q := 407) dX12_init_406 rfl (i := 1) rfl (pl := 0) rfl ?_
  refine tj_iconst (q := 408) (v := (-1)) dX12_init_407 rfl (by decide) ?_
  refine c_iast (q := 409) (k := 3) (N := 20) (t := 262) (tk_at (i := 262) shl_262 (by decide)) (by decide) (by decide) (by decide) dX12_init_408 rfl ?_
  exact kk

def cS12_10 (ρ : Rh_) : Rh_ :=
 (pI (pI ρ 262 4 (-1 : Int32)) 262 5 (-1 : Int32))
set_option maxHeartbeats 4000000 in
set_option maxRecDepth 20000 in
theorem k12_10 {f : Unit → Out_} (ρ : Rh_) (hp_0_60 : ρ.1 233 60 = some (262)) (kk : Tj l D cA h0 ad RX12 cX12_init 2 none true 2 46 28817 f 46 28817 (SHL.take 280) (cS12_10 ρ).1 (cS12_10 ρ).2 396 [(1, .int 6), (0, .ref (h0 + 233))] [] (some ())) : Tj l D cA h0 ad RX12 cX12_init 2 none true 2 46 28817 f 46 28817 (SHL.take 280) (ρ).1 (ρ).2 409 [(1, .int 3), (0, .ref (h0 + 233))] [] (some ()) := by
  refine tj_iinc (q := 412) (v := 4) dX12_init_409 rfl (pl := 0) rfl (by decide) (by decide) rfl ?_
  refine tj_goto (q := 396) dX12_init_412 (by decide) ?_
  refine tj_iload_n (q := 397) dX12_init_396 rfl (i := 1) rfl (pl := 0) rfl ?_
  refine tj_bipush (q := 399) (v := 10) dX12_init_397 rfl (by decide) ?_
  refine c_geN (tgt := 415) (q := 402) (by decide) dX12_init_399 (by decide) rfl ?_
  refine tj_aload_n (q := 403) dX12_init_402 rfl (i := 0) rfl (pl := 1) rfl ?_
  refine tj_getR (k := 60) (q := 406) (j := 262) (tk_at (i := 233) shl_233 (by decide)) (show _ = some (262) from hp_0_60) fok_12_60 wl_RX12_102 dX12_init_403 rfl ?_
  refine tj_iload_n (q := 407) dX12_init_406 rfl (i := 1) rfl (pl := 0) rfl ?_
  refine tj_iconst (q := 408) (v := (-1)) dX12_init_407 rfl (by decide) ?_
  refine c_iast (q := 409) (k := 4) (N := 20) (t := 262) (tk_at (i := 262) shl_262 (by decide)) (by decide) (by decide) (by decide) dX12_init_408 rfl ?_
  refine tj_iinc (q := 412) (v := 5) dX12_init_409 rfl (pl := 0) rfl (by decide) (by decide) rfl ?_
  refine tj_goto (q := 396) dX12_init_412 (by decide) ?_
  refine tj_iload_n (q := 397) dX12_init_396 rfl (i := 1) rfl (pl := 0) rfl ?_
  refine tj_bipush (q := 399) (v := 10) dX12_init_397 rfl (by decide) ?_
  refine c_geN (tgt := 415) (q := 402) (by decide) dX12_init_399 (by decide) rfl ?_
  refine tj_aload_n (q := 403) dX12_init_402 rfl (i := 0) rfl (pl := 1) rfl ?_
  refine tj_getR (k := 60) (q := 406) (j := 262) (tk_at (i := 233) shl_233 (by decide)) (show _ = some (262) from hp_0_60) fok_12_60 wl_RX12_102 dX12_init_403 rfl ?_
  refine tj_iload_n (q := 407) dX12_init_406 rfl (i := 1) rfl (pl := 0) rfl ?_
  refine tj_iconst (q := 408) (v := (-1)) dX12_init_407 rfl (by decide) ?_
  refine c_iast (q := 409) (k := 5) (N := 20) (t := 262) (tk_at (i := 262) shl_262 (by decide)) (by decide) (by decide) (by decide) dX12_init_408 rfl ?_
  refine tj_iinc (q := 412) (v := 6) dX12_init_409 rfl (pl := 0) rfl (by decide) (by decide) rfl ?_
  refine tj_goto (q := 396) dX12_init_412 (by decide) ?_
  exact kk

def cS12_11 (ρ : Rh_) : Rh_ :=
 (pI (pI ρ 262 6 (-1 : Int32)) 262 7 (-1 : Int32))
set_option maxHeartbeats 4000000 in
set_option maxRecDepth 20000 in
theorem k12_11 {f : Unit → Out_} (ρ : Rh_) (hp_0_60 : ρ.1 233 60 = some (262)) (kk : Tj l D cA h0 ad RX12 cX12_init 2 none true 2 46 28817 f 46 28817 (SHL.take 280) (cS12_11 ρ).1 (cS12_11 ρ).2 402 [(1, .int 8), (0, .ref (h0 + 233))] [] (some ())) : Tj l D cA h0 ad RX12 cX12_init 2 none true 2 46 28817 f 46 28817 (SHL.take 280) (ρ).1 (ρ).2 396 [(1, .int 6), (0, .ref (h0 + 233))] [] (some ()) := by
  refine tj_iload_n (q := 397) dX12_init_396 rfl (i := 1) rfl (pl := 0) rfl ?_
  refine tj_bipush (q := 399) (v := 10) dX12_init_397 rfl (by decide) ?_
  refine c_geN (tgt := 415) (q := 402) (by decide) dX12_init_399 (by decide) rfl ?_
  refine tj_aload_n (q := 403) dX12_init_402 rfl (i := 0) rfl (pl := 1) rfl ?_
  refine tj_getR (k := 60) (q := 406) (j := 262) (tk_at (i := 233) shl_233 (by decide)) (show _ = some (262) from hp_0_60) fok_12_60 wl_RX12_102 dX12_init_403 rfl ?_
  refine tj_iload_n (q := 407) dX12_init_406 rfl (i := 1) rfl (pl := 0) rfl ?_
  refine tj_iconst (q := 408) (v := (-1)) dX12_init_407 rfl (by decide) ?_
  refine c_iast (q := 409) (k := 6) (N := 20) (t := 262) (tk_at (i := 262) shl_262 (by decide)) (by decide) (by decide) (by decide) dX12_init_408 rfl ?_
  refine tj_iinc (q := 412) (v := 7) dX12_init_409 rfl (pl := 0) rfl (by decide) (by decide) rfl ?_
  refine tj_goto (q := 396) dX12_init_412 (by decide) ?_
  refine tj_iload_n (q := 397) dX12_init_396 rfl (i := 1) rfl (pl := 0) rfl ?_
  refine tj_bipush (q := 399) (v := 10) dX12_init_397 rfl (by decide) ?_
  refine c_geN (tgt := 415) (q := 402) (by decide) dX12_init_399 (by decide) rfl ?_
  refine tj_aload_n (q := 403) dX12_init_402 rfl (i := 0) rfl (pl := 1) rfl ?_
  refine tj_getR (k := 60) (q := 406) (j := 262) (tk_at (i := 233) shl_233 (by decide)) (show _ = some (262) from hp_0_60) fok_12_60 wl_RX12_102 dX12_init_403 rfl ?_
  refine tj_iload_n (q := 407) dX12_init_406 rfl (i := 1) rfl (pl := 0) rfl ?_
  refine tj_iconst (q := 408) (v := (-1)) dX12_init_407 rfl (by decide) ?_
  refine c_iast (q := 409) (k := 7) (N := 20) (t := 262) (tk_at (i := 262) shl_262 (by decide)) (by decide) (by decide) (by decide) dX12_init_408 rfl ?_
  refine tj_iinc (q := 412) (v := 8) dX12_init_409 rfl (pl := 0) rfl (by decide) (by decide) rfl ?_
  refine tj_goto (q := 396) dX12_init_412 (by decide) ?_
  refine tj_iload_n (q := 397) dX12_init_396 rfl (i := 1) rfl (pl := 0) rfl ?_
  refine tj_bipush (q := 399) (v := 10) dX12_init_397 rfl (by decide) ?_
  refine c_geN (tgt := 415) (q := 402) (by decide) dX12_init_399 (by decide) rfl ?_
  exact kk

def cS12_12 (ρ : Rh_) : Rh_ :=
 (pI (pI ρ 262 8 (-1 : Int32)) 262 9 (-1 : Int32))
set_option maxHeartbeats 4000000 in
set_option maxRecDepth 20000 in
theorem k12_12 {f : Unit → Out_} (ρ : Rh_) (hp_0_60 : ρ.1 233 60 = some (262)) (hf : f () = (none, SHL.take 280, (cS12_12 ρ).1, (cS12_12 ρ).2)) : Tj l D cA h0 ad RX12 cX12_init 2 none true 2 46 28817 f 46 28817 (SHL.take 280) (ρ).1 (ρ).2 402 [(1, .int 8), (0, .ref (h0 + 233))] [] (some ()) := by
  refine tj_aload_n (q := 403) dX12_init_402 rfl (i := 0) rfl (pl := 1) rfl ?_
  refine tj_getR (k := 60) (q := 406) (j := 262) (tk_at (i := 233) shl_233 (by decide)) (show _ = some (262) from hp_0_60) fok_12_60 wl_RX12_102 dX12_init_403 rfl ?_
  refine tj_iload_n (q := 407) dX12_init_406 rfl (i := 1) rfl (pl := 0) rfl ?_
  refine tj_iconst (q := 408) (v := (-1)) dX12_init_407 rfl (by decide) ?_
  refine c_iast (q := 409) (k := 8) (N := 20) (t := 262) (tk_at (i := 262) shl_262 (by decide)) (by decide) (by decide) (by decide) dX12_init_408 rfl ?_
  refine tj_iinc (q := 412) (v := 9) dX12_init_409 rfl (pl := 0) rfl (by decide) (by decide) rfl ?_
  refine tj_goto (q := 396) dX12_init_412 (by decide) ?_
  refine tj_iload_n (q := 397) dX12_init_396 rfl (i := 1) rfl (pl := 0) rfl ?_
  refine tj_bipush (q := 399) (v := 10) dX12_init_397 rfl (by decide) ?_
  refine c_geN (tgt := 415) (q := 402) (by decide) dX12_init_399 (by decide) rfl ?_
  refine tj_aload_n (q := 403) dX12_init_402 rfl (i := 0) rfl (pl := 1) rfl ?_
  refine tj_getR (k := 60) (q := 406) (j := 262) (tk_at (i := 233) shl_233 (by decide)) (show _ = some (262) from hp_0_60) fok_12_60 wl_RX12_102 dX12_init_403 rfl ?_
  refine tj_iload_n (q := 407) dX12_init_406 rfl (i := 1) rfl (pl := 0) rfl ?_
  refine tj_iconst (q := 408) (v := (-1)) dX12_init_407 rfl (by decide) ?_
  refine c_iast (q := 409) (k := 9) (N := 20) (t := 262) (tk_at (i := 262) shl_262 (by decide)) (by decide) (by decide) (by decide) dX12_init_408 rfl ?_
  refine tj_iinc (q := 412) (v := 10) dX12_init_409 rfl (pl := 0) rfl (by decide) (by decide) rfl ?_
  refine tj_goto (q := 396) dX12_init_412 (by decide) ?_
  refine tj_iload_n (q := 397) dX12_init_396 rfl (i := 1) rfl (pl := 0) rfl ?_
  refine tj_bipush (q := 399) (v := 10) dX12_init_397 rfl (by decide) ?_
  refine c_geY (tgt := 415) (by decide) dX12_init_399 (by decide) ?_
  exact tj_vret rfl hf (Nat.le_of_ble_eq_true rfl) (Nat.le_of_ble_eq_true rfl) dX12_init_415

def cE12 (ρ : Rh_) : Rh_ := cS12_12 (cS12_11 (cS12_10 (cS12_9 (cS12_8 (cS12_7 (cS12_6 (cS12_5 (cS12_4 (cS12_3 (cS12_2 (cS12_1 (cS12_0 ρ))))))))))))
set_option maxHeartbeats 4000000 in
set_option maxRecDepth 20000 in
theorem k12 (ρ : Rh_) : Rj l D cA h0 ad yX12_init cX12_init 2 none true 2 46 28817 (fun _ : Unit => (none, SHL.take 280, (cE12 ρ).1, (cE12 ρ).2)) [.ref (h0 + 233)] (SHL.take 234) ρ.1 ρ.2 (some ()) := by
  refine Rj.of (by decide) (fun _ => rfl) (Nat.le_of_ble_eq_true rfl) ?_
  refine tj_lv0 (lv' := [(0, .ref (h0 + 233))]) rfl ?_
  refine k12_0 _ ?_
  refine k12_1 _ ?_
  refine k12_2 _ ?_
  refine k12_3 _ ?_
  refine k12_4 _ ?_
  refine k12_5 _ ?_
  refine k12_6 _ ?_
  refine k12_7 _ ?_
  refine k12_8 _ rfl ?_
  refine k12_9 _ rfl ?_
  refine k12_10 _ rfl ?_
  refine k12_11 _ rfl ?_
  exact k12_12 _ rfl rfl

end
