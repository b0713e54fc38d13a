section
variable {l : Launch} {D : va_G} {cA : Nat → ClassId} {h0 : Nat} {ad : Ad_} {b L : Nat} {xs : Nat → Int32} {sh : Sh_} {P : Px_} {σ : St_} {pc : Nat} {lv : List (Nat × Value)} {st : List Value}
theorem dL_law_0 : decode cL_law 0 = .ok (.new 7, 3) := by decide +kernel
theorem dL_law_3 : decode cL_law 3 = .ok (.dup, 1) := by decide +kernel
theorem dL_law_4 : decode cL_law 4 = .ok (.invokespecial 9, 3) := by decide +kernel
theorem dL_law_7 : decode cL_law 7 = .ok (.astore_n 1, 1) := by decide +kernel
theorem dL_law_8 : decode cL_law 8 = .ok (.new 10, 3) := by decide +kernel
theorem dL_law_11 : decode cL_law 11 = .ok (.dup, 1) := by decide +kernel
theorem dL_law_12 : decode cL_law 12 = .ok (.invokespecial 12, 3) := by decide +kernel
theorem dL_law_15 : decode cL_law 15 = .ok (.astore_n 2, 1) := by decide +kernel
theorem dL_law_16 : decode cL_law 16 = .ok (.iconst 0, 1) := by decide +kernel
theorem dL_law_17 : decode cL_law 17 = .ok (.istore_n 3, 1) := by decide +kernel
theorem dL_law_18 : decode cL_law 18 = .ok (.iload_n 3, 1) := by decide +kernel
theorem dL_law_19 : decode cL_law 19 = .ok (.aload_n 0, 1) := by decide +kernel
theorem dL_law_20 : decode cL_law 20 = .ok (.arraylength, 1) := by decide +kernel
theorem dL_law_21 : decode cL_law 21 = .ok (.bipush 6, 2) := by decide +kernel
theorem dL_law_23 : decode cL_law 23 = .ok (.isub, 1) := by decide +kernel
theorem dL_law_24 : decode cL_law 24 = .ok (.if_icmp .gt 1381, 3) := by decide +kernel
theorem dL_law_27 : decode cL_law 27 = .ok (.aload_n 0, 1) := by decide +kernel
theorem dL_law_28 : decode cL_law 28 = .ok (.iload_n 3, 1) := by decide +kernel
theorem dL_law_29 : decode cL_law 29 = .ok (.iaload, 1) := by decide +kernel
theorem dL_law_30 : decode cL_law 30 = .ok (.bipush 63, 2) := by decide +kernel
theorem dL_law_32 : decode cL_law 32 = .ok (.iand, 1) := by decide +kernel
theorem dL_law_33 : decode cL_law 33 = .ok (.tableswitch 1366 0 34 #[155, 218, 241, 254, 277, 310, 369, 418, 467, 500, 543, 606, 659, 672, 731, 744, 757, 780, 803, 836, 869, 928, 941, 984, 1007, 1020, 1043, 1066, 1145, 1168, 1191, 1244, 1297, 1320, 1343], 155) := by decide +kernel
theorem dL_law_188 : decode cL_law 188 = .ok (.aload_n 1, 1) := by decide +kernel
theorem dL_law_189 : decode cL_law 189 = .ok (.aload_n 0, 1) := by decide +kernel
theorem dL_law_190 : decode cL_law 190 = .ok (.iload_n 3, 1) := by decide +kernel
theorem dL_law_191 : decode cL_law 191 = .ok (.iconst 1, 1) := by decide +kernel
theorem dL_law_192 : decode cL_law 192 = .ok (.iadd, 1) := by decide +kernel
theorem dL_law_193 : decode cL_law 193 = .ok (.iaload, 1) := by decide +kernel
theorem dL_law_194 : decode cL_law 194 = .ok (.aload_n 0, 1) := by decide +kernel
theorem dL_law_195 : decode cL_law 195 = .ok (.iload_n 3, 1) := by decide +kernel
theorem dL_law_196 : decode cL_law 196 = .ok (.iconst 2, 1) := by decide +kernel
theorem dL_law_197 : decode cL_law 197 = .ok (.iadd, 1) := by decide +kernel
theorem dL_law_198 : decode cL_law 198 = .ok (.iaload, 1) := by decide +kernel
theorem dL_law_199 : decode cL_law 199 = .ok (.aload_n 0, 1) := by decide +kernel
theorem dL_law_200 : decode cL_law 200 = .ok (.iload_n 3, 1) := by decide +kernel
theorem dL_law_201 : decode cL_law 201 = .ok (.iconst 3, 1) := by decide +kernel
theorem dL_law_202 : decode cL_law 202 = .ok (.iadd, 1) := by decide +kernel
theorem dL_law_203 : decode cL_law 203 = .ok (.iaload, 1) := by decide +kernel
theorem dL_law_204 : decode cL_law 204 = .ok (.aload_n 0, 1) := by decide +kernel
theorem dL_law_205 : decode cL_law 205 = .ok (.iload_n 3, 1) := by decide +kernel
theorem dL_law_206 : decode cL_law 206 = .ok (.iconst 4, 1) := by decide +kernel
theorem dL_law_207 : decode cL_law 207 = .ok (.iadd, 1) := by decide +kernel
theorem dL_law_208 : decode cL_law 208 = .ok (.iaload, 1) := by decide +kernel
theorem dL_law_209 : decode cL_law 209 = .ok (.aload_n 0, 1) := by decide +kernel
theorem dL_law_210 : decode cL_law 210 = .ok (.iload_n 3, 1) := by decide +kernel
theorem dL_law_211 : decode cL_law 211 = .ok (.iconst 5, 1) := by decide +kernel
theorem dL_law_212 : decode cL_law 212 = .ok (.iadd, 1) := by decide +kernel
theorem dL_law_213 : decode cL_law 213 = .ok (.iaload, 1) := by decide +kernel
theorem dL_law_214 : decode cL_law 214 = .ok (.invokevirtual 13, 3) := by decide +kernel
theorem dL_law_217 : decode cL_law 217 = .ok (.aload_n 2, 1) := by decide +kernel
theorem dL_law_218 : decode cL_law 218 = .ok (.aload_n 0, 1) := by decide +kernel
theorem dL_law_219 : decode cL_law 219 = .ok (.iload_n 3, 1) := by decide +kernel
theorem dL_law_220 : decode cL_law 220 = .ok (.iconst 1, 1) := by decide +kernel
theorem dL_law_221 : decode cL_law 221 = .ok (.iadd, 1) := by decide +kernel
theorem dL_law_222 : decode cL_law 222 = .ok (.iaload, 1) := by decide +kernel
theorem dL_law_223 : decode cL_law 223 = .ok (.aload_n 0, 1) := by decide +kernel
theorem dL_law_224 : decode cL_law 224 = .ok (.iload_n 3, 1) := by decide +kernel
theorem dL_law_225 : decode cL_law 225 = .ok (.iconst 2, 1) := by decide +kernel
theorem dL_law_226 : decode cL_law 226 = .ok (.iadd, 1) := by decide +kernel
theorem dL_law_227 : decode cL_law 227 = .ok (.iaload, 1) := by decide +kernel
theorem dL_law_228 : decode cL_law 228 = .ok (.aload_n 0, 1) := by decide +kernel
theorem dL_law_229 : decode cL_law 229 = .ok (.iload_n 3, 1) := by decide +kernel
theorem dL_law_230 : decode cL_law 230 = .ok (.iconst 3, 1) := by decide +kernel
theorem dL_law_231 : decode cL_law 231 = .ok (.iadd, 1) := by decide +kernel
theorem dL_law_232 : decode cL_law 232 = .ok (.iaload, 1) := by decide +kernel
theorem dL_law_233 : decode cL_law 233 = .ok (.aload_n 0, 1) := by decide +kernel
theorem dL_law_234 : decode cL_law 234 = .ok (.iload_n 3, 1) := by decide +kernel
theorem dL_law_235 : decode cL_law 235 = .ok (.iconst 4, 1) := by decide +kernel
theorem dL_law_236 : decode cL_law 236 = .ok (.iadd, 1) := by decide +kernel
theorem dL_law_237 : decode cL_law 237 = .ok (.iaload, 1) := by decide +kernel
theorem dL_law_238 : decode cL_law 238 = .ok (.aload_n 0, 1) := by decide +kernel
theorem dL_law_239 : decode cL_law 239 = .ok (.iload_n 3, 1) := by decide +kernel
theorem dL_law_240 : decode cL_law 240 = .ok (.iconst 5, 1) := by decide +kernel
theorem dL_law_241 : decode cL_law 241 = .ok (.iadd, 1) := by decide +kernel
theorem dL_law_242 : decode cL_law 242 = .ok (.iaload, 1) := by decide +kernel
theorem dL_law_243 : decode cL_law 243 = .ok (.invokevirtual 17, 3) := by decide +kernel
theorem dL_law_246 : decode cL_law 246 = .ok (.if_icmp .eq 1153, 3) := by decide +kernel
theorem dL_law_249 : decode cL_law 249 = .ok (.iconst 0, 1) := by decide +kernel
theorem dL_law_250 : decode cL_law 250 = .ok (.ireturn, 1) := by decide +kernel
theorem dL_law_251 : decode cL_law 251 = .ok (.aload_n 1, 1) := by decide +kernel
theorem dL_law_252 : decode cL_law 252 = .ok (.aload_n 0, 1) := by decide +kernel
theorem dL_law_253 : decode cL_law 253 = .ok (.iload_n 3, 1) := by decide +kernel
theorem dL_law_254 : decode cL_law 254 = .ok (.iconst 1, 1) := by decide +kernel
theorem dL_law_255 : decode cL_law 255 = .ok (.iadd, 1) := by decide +kernel
theorem dL_law_256 : decode cL_law 256 = .ok (.iaload, 1) := by decide +kernel
theorem dL_law_257 : decode cL_law 257 = .ok (.invokevirtual 18, 3) := by decide +kernel
theorem dL_law_260 : decode cL_law 260 = .ok (.aload_n 2, 1) := by decide +kernel
theorem dL_law_261 : decode cL_law 261 = .ok (.aload_n 0, 1) := by decide +kernel
theorem dL_law_262 : decode cL_law 262 = .ok (.iload_n 3, 1) := by decide +kernel
theorem dL_law_263 : decode cL_law 263 = .ok (.iconst 1, 1) := by decide +kernel
theorem dL_law_264 : decode cL_law 264 = .ok (.iadd, 1) := by decide +kernel
theorem dL_law_265 : decode cL_law 265 = .ok (.iaload, 1) := by decide +kernel
theorem dL_law_266 : decode cL_law 266 = .ok (.invokevirtual 22, 3) := by decide +kernel
theorem dL_law_269 : decode cL_law 269 = .ok (.if_icmp .eq 1130, 3) := by decide +kernel
theorem dL_law_272 : decode cL_law 272 = .ok (.iconst 0, 1) := by decide +kernel
theorem dL_law_273 : decode cL_law 273 = .ok (.ireturn, 1) := by decide +kernel
theorem dL_law_274 : decode cL_law 274 = .ok (.aload_n 1, 1) := by decide +kernel
theorem dL_law_275 : decode cL_law 275 = .ok (.invokevirtual 23, 3) := by decide +kernel
theorem dL_law_278 : decode cL_law 278 = .ok (.aload_n 2, 1) := by decide +kernel
theorem dL_law_279 : decode cL_law 279 = .ok (.invokevirtual 27, 3) := by decide +kernel
theorem dL_law_282 : decode cL_law 282 = .ok (.if_icmp .eq 1117, 3) := by decide +kernel
theorem dL_law_285 : decode cL_law 285 = .ok (.iconst 0, 1) := by decide +kernel
theorem dL_law_286 : decode cL_law 286 = .ok (.ireturn, 1) := by decide +kernel
theorem dL_law_287 : decode cL_law 287 = .ok (.aload_n 1, 1) := by decide +kernel
theorem dL_law_288 : decode cL_law 288 = .ok (.aload_n 0, 1) := by decide +kernel
theorem dL_law_289 : decode cL_law 289 = .ok (.iload_n 3, 1) := by decide +kernel
theorem dL_law_290 : decode cL_law 290 = .ok (.iconst 1, 1) := by decide +kernel
theorem dL_law_291 : decode cL_law 291 = .ok (.iadd, 1) := by decide +kernel
theorem dL_law_292 : decode cL_law 292 = .ok (.iaload, 1) := by decide +kernel
theorem dL_law_293 : decode cL_law 293 = .ok (.invokevirtual 28, 3) := by decide +kernel
theorem dL_law_296 : decode cL_law 296 = .ok (.aload_n 2, 1) := by decide +kernel
theorem dL_law_297 : decode cL_law 297 = .ok (.aload_n 0, 1) := by decide +kernel
theorem dL_law_298 : decode cL_law 298 = .ok (.iload_n 3, 1) := by decide +kernel
theorem dL_law_299 : decode cL_law 299 = .ok (.iconst 1, 1) := by decide +kernel
theorem dL_law_300 : decode cL_law 300 = .ok (.iadd, 1) := by decide +kernel
theorem dL_law_301 : decode cL_law 301 = .ok (.iaload, 1) := by decide +kernel
theorem dL_law_302 : decode cL_law 302 = .ok (.invokevirtual 31, 3) := by decide +kernel
theorem dL_law_305 : decode cL_law 305 = .ok (.if_icmp .eq 1094, 3) := by decide +kernel
theorem dL_law_308 : decode cL_law 308 = .ok (.iconst 0, 1) := by decide +kernel
theorem dL_law_309 : decode cL_law 309 = .ok (.ireturn, 1) := by decide +kernel
theorem dL_law_310 : decode cL_law 310 = .ok (.aload_n 1, 1) := by decide +kernel
theorem dL_law_311 : decode cL_law 311 = .ok (.aload_n 0, 1) := by decide +kernel
theorem dL_law_312 : decode cL_law 312 = .ok (.iload_n 3, 1) := by decide +kernel
theorem dL_law_313 : decode cL_law 313 = .ok (.iconst 1, 1) := by decide +kernel
theorem dL_law_314 : decode cL_law 314 = .ok (.iadd, 1) := by decide +kernel
theorem dL_law_315 : decode cL_law 315 = .ok (.iaload, 1) := by decide +kernel
theorem dL_law_316 : decode cL_law 316 = .ok (.aload_n 0, 1) := by decide +kernel
theorem dL_law_317 : decode cL_law 317 = .ok (.iload_n 3, 1) := by decide +kernel
theorem dL_law_318 : decode cL_law 318 = .ok (.iconst 2, 1) := by decide +kernel
theorem dL_law_319 : decode cL_law 319 = .ok (.iadd, 1) := by decide +kernel
theorem dL_law_320 : decode cL_law 320 = .ok (.iaload, 1) := by decide +kernel
theorem dL_law_321 : decode cL_law 321 = .ok (.invokevirtual 32, 3) := by decide +kernel
theorem dL_law_324 : decode cL_law 324 = .ok (.aload_n 2, 1) := by decide +kernel
theorem dL_law_325 : decode cL_law 325 = .ok (.aload_n 0, 1) := by decide +kernel
theorem dL_law_326 : decode cL_law 326 = .ok (.iload_n 3, 1) := by decide +kernel
theorem dL_law_327 : decode cL_law 327 = .ok (.iconst 1, 1) := by decide +kernel
theorem dL_law_328 : decode cL_law 328 = .ok (.iadd, 1) := by decide +kernel
theorem dL_law_329 : decode cL_law 329 = .ok (.iaload, 1) := by decide +kernel
theorem dL_law_330 : decode cL_law 330 = .ok (.aload_n 0, 1) := by decide +kernel
theorem dL_law_331 : decode cL_law 331 = .ok (.iload_n 3, 1) := by decide +kernel
theorem dL_law_332 : decode cL_law 332 = .ok (.iconst 2, 1) := by decide +kernel
theorem dL_law_333 : decode cL_law 333 = .ok (.iadd, 1) := by decide +kernel
theorem dL_law_334 : decode cL_law 334 = .ok (.iaload, 1) := by decide +kernel
theorem dL_law_335 : decode cL_law 335 = .ok (.invokevirtual 36, 3) := by decide +kernel
theorem dL_law_338 : decode cL_law 338 = .ok (.if_icmp .eq 1061, 3) := by decide +kernel
theorem dL_law_341 : decode cL_law 341 = .ok (.iconst 0, 1) := by decide +kernel
theorem dL_law_342 : decode cL_law 342 = .ok (.ireturn, 1) := by decide +kernel
theorem dL_law_343 : decode cL_law 343 = .ok (.aload_n 1, 1) := by decide +kernel
theorem dL_law_344 : decode cL_law 344 = .ok (.aload_n 0, 1) := by decide +kernel
theorem dL_law_345 : decode cL_law 345 = .ok (.iload_n 3, 1) := by decide +kernel
theorem dL_law_346 : decode cL_law 346 = .ok (.iconst 1, 1) := by decide +kernel
theorem dL_law_347 : decode cL_law 347 = .ok (.iadd, 1) := by decide +kernel
theorem dL_law_348 : decode cL_law 348 = .ok (.iaload, 1) := by decide +kernel
theorem dL_law_349 : decode cL_law 349 = .ok (.aload_n 0, 1) := by decide +kernel
theorem dL_law_350 : decode cL_law 350 = .ok (.iload_n 3, 1) := by decide +kernel
theorem dL_law_351 : decode cL_law 351 = .ok (.iconst 2, 1) := by decide +kernel
theorem dL_law_352 : decode cL_law 352 = .ok (.iadd, 1) := by decide +kernel
theorem dL_law_353 : decode cL_law 353 = .ok (.iaload, 1) := by decide +kernel
theorem dL_law_354 : decode cL_law 354 = .ok (.aload_n 0, 1) := by decide +kernel
theorem dL_law_355 : decode cL_law 355 = .ok (.iload_n 3, 1) := by decide +kernel
theorem dL_law_356 : decode cL_law 356 = .ok (.iconst 3, 1) := by decide +kernel
theorem dL_law_357 : decode cL_law 357 = .ok (.iadd, 1) := by decide +kernel
theorem dL_law_358 : decode cL_law 358 = .ok (.iaload, 1) := by decide +kernel
theorem dL_law_359 : decode cL_law 359 = .ok (.ifCond .eq 7, 3) := by decide +kernel
theorem dL_law_362 : decode cL_law 362 = .ok (.iconst 1, 1) := by decide +kernel
theorem dL_law_363 : decode cL_law 363 = .ok (.goto 4, 3) := by decide +kernel
theorem dL_law_366 : decode cL_law 366 = .ok (.iconst 0, 1) := by decide +kernel
theorem dL_law_367 : decode cL_law 367 = .ok (.invokevirtual 37, 3) := by decide +kernel
theorem dL_law_370 : decode cL_law 370 = .ok (.aload_n 2, 1) := by decide +kernel
theorem dL_law_371 : decode cL_law 371 = .ok (.aload_n 0, 1) := by decide +kernel
theorem dL_law_372 : decode cL_law 372 = .ok (.iload_n 3, 1) := by decide +kernel
theorem dL_law_373 : decode cL_law 373 = .ok (.iconst 1, 1) := by decide +kernel
theorem dL_law_374 : decode cL_law 374 = .ok (.iadd, 1) := by decide +kernel
theorem dL_law_375 : decode cL_law 375 = .ok (.iaload, 1) := by decide +kernel
theorem dL_law_376 : decode cL_law 376 = .ok (.aload_n 0, 1) := by decide +kernel
theorem dL_law_377 : decode cL_law 377 = .ok (.iload_n 3, 1) := by decide +kernel
theorem dL_law_378 : decode cL_law 378 = .ok (.iconst 2, 1) := by decide +kernel
theorem dL_law_379 : decode cL_law 379 = .ok (.iadd, 1) := by decide +kernel
theorem dL_law_380 : decode cL_law 380 = .ok (.iaload, 1) := by decide +kernel
theorem dL_law_381 : decode cL_law 381 = .ok (.aload_n 0, 1) := by decide +kernel
theorem dL_law_382 : decode cL_law 382 = .ok (.iload_n 3, 1) := by decide +kernel
theorem dL_law_383 : decode cL_law 383 = .ok (.iconst 3, 1) := by decide +kernel
theorem dL_law_384 : decode cL_law 384 = .ok (.iadd, 1) := by decide +kernel
theorem dL_law_385 : decode cL_law 385 = .ok (.iaload, 1) := by decide +kernel
theorem dL_law_386 : decode cL_law 386 = .ok (.ifCond .eq 7, 3) := by decide +kernel
theorem dL_law_389 : decode cL_law 389 = .ok (.iconst 1, 1) := by decide +kernel
theorem dL_law_390 : decode cL_law 390 = .ok (.goto 4, 3) := by decide +kernel
theorem dL_law_393 : decode cL_law 393 = .ok (.iconst 0, 1) := by decide +kernel
theorem dL_law_394 : decode cL_law 394 = .ok (.invokevirtual 41, 3) := by decide +kernel
theorem dL_law_397 : decode cL_law 397 = .ok (.if_icmp .eq 1002, 3) := by decide +kernel
theorem dL_law_400 : decode cL_law 400 = .ok (.iconst 0, 1) := by decide +kernel
theorem dL_law_401 : decode cL_law 401 = .ok (.ireturn, 1) := by decide +kernel
theorem dL_law_402 : decode cL_law 402 = .ok (.aload_n 1, 1) := by decide +kernel
theorem dL_law_403 : decode cL_law 403 = .ok (.aload_n 0, 1) := by decide +kernel
theorem dL_law_404 : decode cL_law 404 = .ok (.iload_n 3, 1) := by decide +kernel
theorem dL_law_405 : decode cL_law 405 = .ok (.iconst 1, 1) := by decide +kernel
theorem dL_law_406 : decode cL_law 406 = .ok (.iadd, 1) := by decide +kernel
theorem dL_law_407 : decode cL_law 407 = .ok (.iaload, 1) := by decide +kernel
theorem dL_law_408 : decode cL_law 408 = .ok (.aload_n 0, 1) := by decide +kernel
theorem dL_law_409 : decode cL_law 409 = .ok (.iload_n 3, 1) := by decide +kernel
theorem dL_law_410 : decode cL_law 410 = .ok (.iconst 2, 1) := by decide +kernel
theorem dL_law_411 : decode cL_law 411 = .ok (.iadd, 1) := by decide +kernel
theorem dL_law_412 : decode cL_law 412 = .ok (.iaload, 1) := by decide +kernel
theorem dL_law_413 : decode cL_law 413 = .ok (.ifCond .eq 7, 3) := by decide +kernel
theorem dL_law_416 : decode cL_law 416 = .ok (.iconst 1, 1) := by decide +kernel
theorem dL_law_417 : decode cL_law 417 = .ok (.goto 4, 3) := by decide +kernel
theorem dL_law_420 : decode cL_law 420 = .ok (.iconst 0, 1) := by decide +kernel
theorem dL_law_421 : decode cL_law 421 = .ok (.invokevirtual 42, 3) := by decide +kernel
theorem dL_law_424 : decode cL_law 424 = .ok (.aload_n 2, 1) := by decide +kernel
theorem dL_law_425 : decode cL_law 425 = .ok (.aload_n 0, 1) := by decide +kernel
theorem dL_law_426 : decode cL_law 426 = .ok (.iload_n 3, 1) := by decide +kernel
theorem dL_law_427 : decode cL_law 427 = .ok (.iconst 1, 1) := by decide +kernel
theorem dL_law_428 : decode cL_law 428 = .ok (.iadd, 1) := by decide +kernel
theorem dL_law_429 : decode cL_law 429 = .ok (.iaload, 1) := by decide +kernel
theorem dL_law_430 : decode cL_law 430 = .ok (.aload_n 0, 1) := by decide +kernel
theorem dL_law_431 : decode cL_law 431 = .ok (.iload_n 3, 1) := by decide +kernel
theorem dL_law_432 : decode cL_law 432 = .ok (.iconst 2, 1) := by decide +kernel
theorem dL_law_433 : decode cL_law 433 = .ok (.iadd, 1) := by decide +kernel
theorem dL_law_434 : decode cL_law 434 = .ok (.iaload, 1) := by decide +kernel
theorem dL_law_435 : decode cL_law 435 = .ok (.ifCond .eq 7, 3) := by decide +kernel
theorem dL_law_438 : decode cL_law 438 = .ok (.iconst 1, 1) := by decide +kernel
theorem dL_law_439 : decode cL_law 439 = .ok (.goto 4, 3) := by decide +kernel
theorem dL_law_442 : decode cL_law 442 = .ok (.iconst 0, 1) := by decide +kernel
theorem dL_law_443 : decode cL_law 443 = .ok (.invokevirtual 46, 3) := by decide +kernel
theorem dL_law_446 : decode cL_law 446 = .ok (.if_icmp .eq 953, 3) := by decide +kernel
theorem dL_law_449 : decode cL_law 449 = .ok (.iconst 0, 1) := by decide +kernel
theorem dL_law_450 : decode cL_law 450 = .ok (.ireturn, 1) := by decide +kernel
theorem dL_law_451 : decode cL_law 451 = .ok (.aload_n 1, 1) := by decide +kernel
theorem dL_law_452 : decode cL_law 452 = .ok (.aload_n 0, 1) := by decide +kernel
theorem dL_law_453 : decode cL_law 453 = .ok (.iload_n 3, 1) := by decide +kernel
theorem dL_law_454 : decode cL_law 454 = .ok (.iconst 1, 1) := by decide +kernel
theorem dL_law_455 : decode cL_law 455 = .ok (.iadd, 1) := by decide +kernel
theorem dL_law_456 : decode cL_law 456 = .ok (.iaload, 1) := by decide +kernel
theorem dL_law_457 : decode cL_law 457 = .ok (.aload_n 0, 1) := by decide +kernel
theorem dL_law_458 : decode cL_law 458 = .ok (.iload_n 3, 1) := by decide +kernel
theorem dL_law_459 : decode cL_law 459 = .ok (.iconst 2, 1) := by decide +kernel
theorem dL_law_460 : decode cL_law 460 = .ok (.iadd, 1) := by decide +kernel
theorem dL_law_461 : decode cL_law 461 = .ok (.iaload, 1) := by decide +kernel
theorem dL_law_462 : decode cL_law 462 = .ok (.ifCond .eq 7, 3) := by decide +kernel
theorem dL_law_465 : decode cL_law 465 = .ok (.iconst 1, 1) := by decide +kernel
theorem dL_law_466 : decode cL_law 466 = .ok (.goto 4, 3) := by decide +kernel
theorem dL_law_469 : decode cL_law 469 = .ok (.iconst 0, 1) := by decide +kernel
theorem dL_law_470 : decode cL_law 470 = .ok (.invokevirtual 47, 3) := by decide +kernel
theorem dL_law_473 : decode cL_law 473 = .ok (.aload_n 2, 1) := by decide +kernel
theorem dL_law_474 : decode cL_law 474 = .ok (.aload_n 0, 1) := by decide +kernel
theorem dL_law_475 : decode cL_law 475 = .ok (.iload_n 3, 1) := by decide +kernel
theorem dL_law_476 : decode cL_law 476 = .ok (.iconst 1, 1) := by decide +kernel
theorem dL_law_477 : decode cL_law 477 = .ok (.iadd, 1) := by decide +kernel
theorem dL_law_478 : decode cL_law 478 = .ok (.iaload, 1) := by decide +kernel
theorem dL_law_479 : decode cL_law 479 = .ok (.aload_n 0, 1) := by decide +kernel
theorem dL_law_480 : decode cL_law 480 = .ok (.iload_n 3, 1) := by decide +kernel
theorem dL_law_481 : decode cL_law 481 = .ok (.iconst 2, 1) := by decide +kernel
theorem dL_law_482 : decode cL_law 482 = .ok (.iadd, 1) := by decide +kernel
theorem dL_law_483 : decode cL_law 483 = .ok (.iaload, 1) := by decide +kernel
theorem dL_law_484 : decode cL_law 484 = .ok (.ifCond .eq 7, 3) := by decide +kernel
theorem dL_law_487 : decode cL_law 487 = .ok (.iconst 1, 1) := by decide +kernel
theorem dL_law_488 : decode cL_law 488 = .ok (.goto 4, 3) := by decide +kernel
theorem dL_law_491 : decode cL_law 491 = .ok (.iconst 0, 1) := by decide +kernel
theorem dL_law_492 : decode cL_law 492 = .ok (.invokevirtual 50, 3) := by decide +kernel
theorem dL_law_495 : decode cL_law 495 = .ok (.if_icmp .eq 904, 3) := by decide +kernel
theorem dL_law_498 : decode cL_law 498 = .ok (.iconst 0, 1) := by decide +kernel
theorem dL_law_499 : decode cL_law 499 = .ok (.ireturn, 1) := by decide +kernel
theorem dL_law_500 : decode cL_law 500 = .ok (.aload_n 1, 1) := by decide +kernel
theorem dL_law_501 : decode cL_law 501 = .ok (.aload_n 0, 1) := by decide +kernel
theorem dL_law_502 : decode cL_law 502 = .ok (.iload_n 3, 1) := by decide +kernel
theorem dL_law_503 : decode cL_law 503 = .ok (.iconst 1, 1) := by decide +kernel
theorem dL_law_504 : decode cL_law 504 = .ok (.iadd, 1) := by decide +kernel
theorem dL_law_505 : decode cL_law 505 = .ok (.iaload, 1) := by decide +kernel
theorem dL_law_506 : decode cL_law 506 = .ok (.aload_n 0, 1) := by decide +kernel
theorem dL_law_507 : decode cL_law 507 = .ok (.iload_n 3, 1) := by decide +kernel
theorem dL_law_508 : decode cL_law 508 = .ok (.iconst 2, 1) := by decide +kernel
theorem dL_law_509 : decode cL_law 509 = .ok (.iadd, 1) := by decide +kernel
theorem dL_law_510 : decode cL_law 510 = .ok (.iaload, 1) := by decide +kernel
theorem dL_law_511 : decode cL_law 511 = .ok (.invokevirtual 51, 3) := by decide +kernel
theorem dL_law_514 : decode cL_law 514 = .ok (.aload_n 2, 1) := by decide +kernel
theorem dL_law_515 : decode cL_law 515 = .ok (.aload_n 0, 1) := by decide +kernel
theorem dL_law_516 : decode cL_law 516 = .ok (.iload_n 3, 1) := by decide +kernel
theorem dL_law_517 : decode cL_law 517 = .ok (.iconst 1, 1) := by decide +kernel
theorem dL_law_518 : decode cL_law 518 = .ok (.iadd, 1) := by decide +kernel
theorem dL_law_519 : decode cL_law 519 = .ok (.iaload, 1) := by decide +kernel
theorem dL_law_520 : decode cL_law 520 = .ok (.aload_n 0, 1) := by decide +kernel
theorem dL_law_521 : decode cL_law 521 = .ok (.iload_n 3, 1) := by decide +kernel
theorem dL_law_522 : decode cL_law 522 = .ok (.iconst 2, 1) := by decide +kernel
theorem dL_law_523 : decode cL_law 523 = .ok (.iadd, 1) := by decide +kernel
theorem dL_law_524 : decode cL_law 524 = .ok (.iaload, 1) := by decide +kernel
theorem dL_law_525 : decode cL_law 525 = .ok (.invokevirtual 54, 3) := by decide +kernel
theorem dL_law_528 : decode cL_law 528 = .ok (.if_icmp .eq 871, 3) := by decide +kernel
theorem dL_law_531 : decode cL_law 531 = .ok (.iconst 0, 1) := by decide +kernel
theorem dL_law_532 : decode cL_law 532 = .ok (.ireturn, 1) := by decide +kernel
theorem dL_law_533 : decode cL_law 533 = .ok (.aload_n 1, 1) := by decide +kernel
theorem dL_law_534 : decode cL_law 534 = .ok (.aload_n 0, 1) := by decide +kernel
theorem dL_law_535 : decode cL_law 535 = .ok (.iload_n 3, 1) := by decide +kernel
theorem dL_law_536 : decode cL_law 536 = .ok (.iconst 1, 1) := by decide +kernel
theorem dL_law_537 : decode cL_law 537 = .ok (.iadd, 1) := by decide +kernel
theorem dL_law_538 : decode cL_law 538 = .ok (.iaload, 1) := by decide +kernel
theorem dL_law_539 : decode cL_law 539 = .ok (.aload_n 0, 1) := by decide +kernel
theorem dL_law_540 : decode cL_law 540 = .ok (.iload_n 3, 1) := by decide +kernel
theorem dL_law_541 : decode cL_law 541 = .ok (.iconst 2, 1) := by decide +kernel
theorem dL_law_542 : decode cL_law 542 = .ok (.iadd, 1) := by decide +kernel
theorem dL_law_543 : decode cL_law 543 = .ok (.iaload, 1) := by decide +kernel
theorem dL_law_544 : decode cL_law 544 = .ok (.aload_n 0, 1) := by decide +kernel
theorem dL_law_545 : decode cL_law 545 = .ok (.iload_n 3, 1) := by decide +kernel
theorem dL_law_546 : decode cL_law 546 = .ok (.iconst 3, 1) := by decide +kernel
theorem dL_law_547 : decode cL_law 547 = .ok (.iadd, 1) := by decide +kernel
theorem dL_law_548 : decode cL_law 548 = .ok (.iaload, 1) := by decide +kernel
theorem dL_law_549 : decode cL_law 549 = .ok (.invokevirtual 55, 3) := by decide +kernel
theorem dL_law_552 : decode cL_law 552 = .ok (.aload_n 2, 1) := by decide +kernel
theorem dL_law_553 : decode cL_law 553 = .ok (.aload_n 0, 1) := by decide +kernel
theorem dL_law_554 : decode cL_law 554 = .ok (.iload_n 3, 1) := by decide +kernel
theorem dL_law_555 : decode cL_law 555 = .ok (.iconst 1, 1) := by decide +kernel
theorem dL_law_556 : decode cL_law 556 = .ok (.iadd, 1) := by decide +kernel
theorem dL_law_557 : decode cL_law 557 = .ok (.iaload, 1) := by decide +kernel
theorem dL_law_558 : decode cL_law 558 = .ok (.aload_n 0, 1) := by decide +kernel
theorem dL_law_559 : decode cL_law 559 = .ok (.iload_n 3, 1) := by decide +kernel
theorem dL_law_560 : decode cL_law 560 = .ok (.iconst 2, 1) := by decide +kernel
theorem dL_law_561 : decode cL_law 561 = .ok (.iadd, 1) := by decide +kernel
theorem dL_law_562 : decode cL_law 562 = .ok (.iaload, 1) := by decide +kernel
theorem dL_law_563 : decode cL_law 563 = .ok (.aload_n 0, 1) := by decide +kernel
theorem dL_law_564 : decode cL_law 564 = .ok (.iload_n 3, 1) := by decide +kernel
theorem dL_law_565 : decode cL_law 565 = .ok (.iconst 3, 1) := by decide +kernel
theorem dL_law_566 : decode cL_law 566 = .ok (.iadd, 1) := by decide +kernel
theorem dL_law_567 : decode cL_law 567 = .ok (.iaload, 1) := by decide +kernel
theorem dL_law_568 : decode cL_law 568 = .ok (.invokevirtual 59, 3) := by decide +kernel
theorem dL_law_571 : decode cL_law 571 = .ok (.if_icmp .eq 828, 3) := by decide +kernel
theorem dL_law_574 : decode cL_law 574 = .ok (.iconst 0, 1) := by decide +kernel
theorem dL_law_575 : decode cL_law 575 = .ok (.ireturn, 1) := by decide +kernel
theorem dL_law_576 : decode cL_law 576 = .ok (.aload_n 1, 1) := by decide +kernel
theorem dL_law_577 : decode cL_law 577 = .ok (.aload_n 0, 1) := by decide +kernel
theorem dL_law_578 : decode cL_law 578 = .ok (.iload_n 3, 1) := by decide +kernel
theorem dL_law_579 : decode cL_law 579 = .ok (.iconst 1, 1) := by decide +kernel
theorem dL_law_580 : decode cL_law 580 = .ok (.iadd, 1) := by decide +kernel
theorem dL_law_581 : decode cL_law 581 = .ok (.iaload, 1) := by decide +kernel
theorem dL_law_582 : decode cL_law 582 = .ok (.aload_n 0, 1) := by decide +kernel
theorem dL_law_583 : decode cL_law 583 = .ok (.iload_n 3, 1) := by decide +kernel
theorem dL_law_584 : decode cL_law 584 = .ok (.iconst 2, 1) := by decide +kernel
theorem dL_law_585 : decode cL_law 585 = .ok (.iadd, 1) := by decide +kernel
theorem dL_law_586 : decode cL_law 586 = .ok (.iaload, 1) := by decide +kernel
theorem dL_law_587 : decode cL_law 587 = .ok (.aload_n 0, 1) := by decide +kernel
theorem dL_law_588 : decode cL_law 588 = .ok (.iload_n 3, 1) := by decide +kernel
theorem dL_law_589 : decode cL_law 589 = .ok (.iconst 3, 1) := by decide +kernel
theorem dL_law_590 : decode cL_law 590 = .ok (.iadd, 1) := by decide +kernel
theorem dL_law_591 : decode cL_law 591 = .ok (.iaload, 1) := by decide +kernel
theorem dL_law_592 : decode cL_law 592 = .ok (.aload_n 0, 1) := by decide +kernel
theorem dL_law_593 : decode cL_law 593 = .ok (.iload_n 3, 1) := by decide +kernel
theorem dL_law_594 : decode cL_law 594 = .ok (.iconst 4, 1) := by decide +kernel
theorem dL_law_595 : decode cL_law 595 = .ok (.iadd, 1) := by decide +kernel
theorem dL_law_596 : decode cL_law 596 = .ok (.iaload, 1) := by decide +kernel
theorem dL_law_597 : decode cL_law 597 = .ok (.aload_n 0, 1) := by decide +kernel
theorem dL_law_598 : decode cL_law 598 = .ok (.iload_n 3, 1) := by decide +kernel
theorem dL_law_599 : decode cL_law 599 = .ok (.iconst 5, 1) := by decide +kernel
theorem dL_law_600 : decode cL_law 600 = .ok (.iadd, 1) := by decide +kernel
theorem dL_law_601 : decode cL_law 601 = .ok (.iaload, 1) := by decide +kernel
theorem dL_law_602 : decode cL_law 602 = .ok (.invokevirtual 60, 3) := by decide +kernel
theorem dL_law_605 : decode cL_law 605 = .ok (.aload_n 2, 1) := by decide +kernel
theorem dL_law_606 : decode cL_law 606 = .ok (.aload_n 0, 1) := by decide +kernel
theorem dL_law_607 : decode cL_law 607 = .ok (.iload_n 3, 1) := by decide +kernel
theorem dL_law_608 : decode cL_law 608 = .ok (.iconst 1, 1) := by decide +kernel
theorem dL_law_609 : decode cL_law 609 = .ok (.iadd, 1) := by decide +kernel
theorem dL_law_610 : decode cL_law 610 = .ok (.iaload, 1) := by decide +kernel
theorem dL_law_611 : decode cL_law 611 = .ok (.aload_n 0, 1) := by decide +kernel
theorem dL_law_612 : decode cL_law 612 = .ok (.iload_n 3, 1) := by decide +kernel
theorem dL_law_613 : decode cL_law 613 = .ok (.iconst 2, 1) := by decide +kernel
theorem dL_law_614 : decode cL_law 614 = .ok (.iadd, 1) := by decide +kernel
theorem dL_law_615 : decode cL_law 615 = .ok (.iaload, 1) := by decide +kernel
theorem dL_law_616 : decode cL_law 616 = .ok (.aload_n 0, 1) := by decide +kernel
theorem dL_law_617 : decode cL_law 617 = .ok (.iload_n 3, 1) := by decide +kernel
theorem dL_law_618 : decode cL_law 618 = .ok (.iconst 3, 1) := by decide +kernel
theorem dL_law_619 : decode cL_law 619 = .ok (.iadd, 1) := by decide +kernel
theorem dL_law_620 : decode cL_law 620 = .ok (.iaload, 1) := by decide +kernel
theorem dL_law_621 : decode cL_law 621 = .ok (.aload_n 0, 1) := by decide +kernel
theorem dL_law_622 : decode cL_law 622 = .ok (.iload_n 3, 1) := by decide +kernel
theorem dL_law_623 : decode cL_law 623 = .ok (.iconst 4, 1) := by decide +kernel
theorem dL_law_624 : decode cL_law 624 = .ok (.iadd, 1) := by decide +kernel
theorem dL_law_625 : decode cL_law 625 = .ok (.iaload, 1) := by decide +kernel
theorem dL_law_626 : decode cL_law 626 = .ok (.aload_n 0, 1) := by decide +kernel
theorem dL_law_627 : decode cL_law 627 = .ok (.iload_n 3, 1) := by decide +kernel
theorem dL_law_628 : decode cL_law 628 = .ok (.iconst 5, 1) := by decide +kernel
theorem dL_law_629 : decode cL_law 629 = .ok (.iadd, 1) := by decide +kernel
theorem dL_law_630 : decode cL_law 630 = .ok (.iaload, 1) := by decide +kernel
theorem dL_law_631 : decode cL_law 631 = .ok (.invokevirtual 63, 3) := by decide +kernel
theorem dL_law_634 : decode cL_law 634 = .ok (.if_icmp .eq 765, 3) := by decide +kernel
theorem dL_law_637 : decode cL_law 637 = .ok (.iconst 0, 1) := by decide +kernel
theorem dL_law_638 : decode cL_law 638 = .ok (.ireturn, 1) := by decide +kernel
theorem dL_law_639 : decode cL_law 639 = .ok (.aload_n 1, 1) := by decide +kernel
theorem dL_law_640 : decode cL_law 640 = .ok (.aload_n 0, 1) := by decide +kernel
theorem dL_law_641 : decode cL_law 641 = .ok (.iload_n 3, 1) := by decide +kernel
theorem dL_law_642 : decode cL_law 642 = .ok (.iconst 1, 1) := by decide +kernel
theorem dL_law_643 : decode cL_law 643 = .ok (.iadd, 1) := by decide +kernel
theorem dL_law_644 : decode cL_law 644 = .ok (.iaload, 1) := by decide +kernel
theorem dL_law_645 : decode cL_law 645 = .ok (.aload_n 0, 1) := by decide +kernel
theorem dL_law_646 : decode cL_law 646 = .ok (.iload_n 3, 1) := by decide +kernel
theorem dL_law_647 : decode cL_law 647 = .ok (.iconst 2, 1) := by decide +kernel
theorem dL_law_648 : decode cL_law 648 = .ok (.iadd, 1) := by decide +kernel
theorem dL_law_649 : decode cL_law 649 = .ok (.iaload, 1) := by decide +kernel
theorem dL_law_650 : decode cL_law 650 = .ok (.aload_n 0, 1) := by decide +kernel
theorem dL_law_651 : decode cL_law 651 = .ok (.iload_n 3, 1) := by decide +kernel
theorem dL_law_652 : decode cL_law 652 = .ok (.iconst 3, 1) := by decide +kernel
theorem dL_law_653 : decode cL_law 653 = .ok (.iadd, 1) := by decide +kernel
theorem dL_law_654 : decode cL_law 654 = .ok (.iaload, 1) := by decide +kernel
theorem dL_law_655 : decode cL_law 655 = .ok (.aload_n 0, 1) := by decide +kernel
theorem dL_law_656 : decode cL_law 656 = .ok (.iload_n 3, 1) := by decide +kernel
theorem dL_law_657 : decode cL_law 657 = .ok (.iconst 4, 1) := by decide +kernel
theorem dL_law_658 : decode cL_law 658 = .ok (.iadd, 1) := by decide +kernel
theorem dL_law_659 : decode cL_law 659 = .ok (.iaload, 1) := by decide +kernel
theorem dL_law_660 : decode cL_law 660 = .ok (.invokevirtual 64, 3) := by decide +kernel
theorem dL_law_663 : decode cL_law 663 = .ok (.aload_n 2, 1) := by decide +kernel
theorem dL_law_664 : decode cL_law 664 = .ok (.aload_n 0, 1) := by decide +kernel
theorem dL_law_665 : decode cL_law 665 = .ok (.iload_n 3, 1) := by decide +kernel
theorem dL_law_666 : decode cL_law 666 = .ok (.iconst 1, 1) := by decide +kernel
theorem dL_law_667 : decode cL_law 667 = .ok (.iadd, 1) := by decide +kernel
theorem dL_law_668 : decode cL_law 668 = .ok (.iaload, 1) := by decide +kernel
theorem dL_law_669 : decode cL_law 669 = .ok (.aload_n 0, 1) := by decide +kernel
theorem dL_law_670 : decode cL_law 670 = .ok (.iload_n 3, 1) := by decide +kernel
theorem dL_law_671 : decode cL_law 671 = .ok (.iconst 2, 1) := by decide +kernel
theorem dL_law_672 : decode cL_law 672 = .ok (.iadd, 1) := by decide +kernel
theorem dL_law_673 : decode cL_law 673 = .ok (.iaload, 1) := by decide +kernel
theorem dL_law_674 : decode cL_law 674 = .ok (.aload_n 0, 1) := by decide +kernel
theorem dL_law_675 : decode cL_law 675 = .ok (.iload_n 3, 1) := by decide +kernel
theorem dL_law_676 : decode cL_law 676 = .ok (.iconst 3, 1) := by decide +kernel
theorem dL_law_677 : decode cL_law 677 = .ok (.iadd, 1) := by decide +kernel
theorem dL_law_678 : decode cL_law 678 = .ok (.iaload, 1) := by decide +kernel
theorem dL_law_679 : decode cL_law 679 = .ok (.aload_n 0, 1) := by decide +kernel
theorem dL_law_680 : decode cL_law 680 = .ok (.iload_n 3, 1) := by decide +kernel
theorem dL_law_681 : decode cL_law 681 = .ok (.iconst 4, 1) := by decide +kernel
theorem dL_law_682 : decode cL_law 682 = .ok (.iadd, 1) := by decide +kernel
theorem dL_law_683 : decode cL_law 683 = .ok (.iaload, 1) := by decide +kernel
theorem dL_law_684 : decode cL_law 684 = .ok (.invokevirtual 68, 3) := by decide +kernel
theorem dL_law_687 : decode cL_law 687 = .ok (.if_icmp .eq 712, 3) := by decide +kernel
theorem dL_law_690 : decode cL_law 690 = .ok (.iconst 0, 1) := by decide +kernel
theorem dL_law_691 : decode cL_law 691 = .ok (.ireturn, 1) := by decide +kernel
theorem dL_law_692 : decode cL_law 692 = .ok (.aload_n 1, 1) := by decide +kernel
theorem dL_law_693 : decode cL_law 693 = .ok (.invokevirtual 69, 3) := by decide +kernel
theorem dL_law_696 : decode cL_law 696 = .ok (.aload_n 2, 1) := by decide +kernel
theorem dL_law_697 : decode cL_law 697 = .ok (.invokevirtual 72, 3) := by decide +kernel
theorem dL_law_700 : decode cL_law 700 = .ok (.if_icmp .eq 699, 3) := by decide +kernel
theorem dL_law_703 : decode cL_law 703 = .ok (.iconst 0, 1) := by decide +kernel
theorem dL_law_704 : decode cL_law 704 = .ok (.ireturn, 1) := by decide +kernel
theorem dL_law_705 : decode cL_law 705 = .ok (.aload_n 1, 1) := by decide +kernel
theorem dL_law_706 : decode cL_law 706 = .ok (.aload_n 0, 1) := by decide +kernel
theorem dL_law_707 : decode cL_law 707 = .ok (.iload_n 3, 1) := by decide +kernel
theorem dL_law_708 : decode cL_law 708 = .ok (.iconst 1, 1) := by decide +kernel
theorem dL_law_709 : decode cL_law 709 = .ok (.iadd, 1) := by decide +kernel
theorem dL_law_710 : decode cL_law 710 = .ok (.iaload, 1) := by decide +kernel
theorem dL_law_711 : decode cL_law 711 = .ok (.aload_n 0, 1) := by decide +kernel
theorem dL_law_712 : decode cL_law 712 = .ok (.iload_n 3, 1) := by decide +kernel
theorem dL_law_713 : decode cL_law 713 = .ok (.iconst 2, 1) := by decide +kernel
theorem dL_law_714 : decode cL_law 714 = .ok (.iadd, 1) := by decide +kernel
theorem dL_law_715 : decode cL_law 715 = .ok (.iaload, 1) := by decide +kernel
theorem dL_law_716 : decode cL_law 716 = .ok (.aload_n 0, 1) := by decide +kernel
theorem dL_law_717 : decode cL_law 717 = .ok (.iload_n 3, 1) := by decide +kernel
theorem dL_law_718 : decode cL_law 718 = .ok (.iconst 3, 1) := by decide +kernel
theorem dL_law_719 : decode cL_law 719 = .ok (.iadd, 1) := by decide +kernel
theorem dL_law_720 : decode cL_law 720 = .ok (.iaload, 1) := by decide +kernel
theorem dL_law_721 : decode cL_law 721 = .ok (.ifCond .eq 7, 3) := by decide +kernel
theorem dL_law_724 : decode cL_law 724 = .ok (.iconst 1, 1) := by decide +kernel
theorem dL_law_725 : decode cL_law 725 = .ok (.goto 4, 3) := by decide +kernel
theorem dL_law_728 : decode cL_law 728 = .ok (.iconst 0, 1) := by decide +kernel
theorem dL_law_729 : decode cL_law 729 = .ok (.invokevirtual 73, 3) := by decide +kernel
theorem dL_law_732 : decode cL_law 732 = .ok (.aload_n 2, 1) := by decide +kernel
theorem dL_law_733 : decode cL_law 733 = .ok (.aload_n 0, 1) := by decide +kernel
theorem dL_law_734 : decode cL_law 734 = .ok (.iload_n 3, 1) := by decide +kernel
theorem dL_law_735 : decode cL_law 735 = .ok (.iconst 1, 1) := by decide +kernel
theorem dL_law_736 : decode cL_law 736 = .ok (.iadd, 1) := by decide +kernel
theorem dL_law_737 : decode cL_law 737 = .ok (.iaload, 1) := by decide +kernel
theorem dL_law_738 : decode cL_law 738 = .ok (.aload_n 0, 1) := by decide +kernel
theorem dL_law_739 : decode cL_law 739 = .ok (.iload_n 3, 1) := by decide +kernel
theorem dL_law_740 : decode cL_law 740 = .ok (.iconst 2, 1) := by decide +kernel
theorem dL_law_741 : decode cL_law 741 = .ok (.iadd, 1) := by decide +kernel
theorem dL_law_742 : decode cL_law 742 = .ok (.iaload, 1) := by decide +kernel
theorem dL_law_743 : decode cL_law 743 = .ok (.aload_n 0, 1) := by decide +kernel
theorem dL_law_744 : decode cL_law 744 = .ok (.iload_n 3, 1) := by decide +kernel
theorem dL_law_745 : decode cL_law 745 = .ok (.iconst 3, 1) := by decide +kernel
theorem dL_law_746 : decode cL_law 746 = .ok (.iadd, 1) := by decide +kernel
theorem dL_law_747 : decode cL_law 747 = .ok (.iaload, 1) := by decide +kernel
theorem dL_law_748 : decode cL_law 748 = .ok (.ifCond .eq 7, 3) := by decide +kernel
theorem dL_law_751 : decode cL_law 751 = .ok (.iconst 1, 1) := by decide +kernel
theorem dL_law_752 : decode cL_law 752 = .ok (.goto 4, 3) := by decide +kernel
theorem dL_law_755 : decode cL_law 755 = .ok (.iconst 0, 1) := by decide +kernel
theorem dL_law_756 : decode cL_law 756 = .ok (.invokevirtual 77, 3) := by decide +kernel
theorem dL_law_759 : decode cL_law 759 = .ok (.if_icmp .eq 640, 3) := by decide +kernel
theorem dL_law_762 : decode cL_law 762 = .ok (.iconst 0, 1) := by decide +kernel
theorem dL_law_763 : decode cL_law 763 = .ok (.ireturn, 1) := by decide +kernel
theorem dL_law_764 : decode cL_law 764 = .ok (.aload_n 1, 1) := by decide +kernel
theorem dL_law_765 : decode cL_law 765 = .ok (.invokevirtual 78, 3) := by decide +kernel
theorem dL_law_768 : decode cL_law 768 = .ok (.aload_n 2, 1) := by decide +kernel
theorem dL_law_769 : decode cL_law 769 = .ok (.invokevirtual 82, 3) := by decide +kernel
theorem dL_law_772 : decode cL_law 772 = .ok (.if_icmp .eq 627, 3) := by decide +kernel
theorem dL_law_775 : decode cL_law 775 = .ok (.iconst 0, 1) := by decide +kernel
theorem dL_law_776 : decode cL_law 776 = .ok (.ireturn, 1) := by decide +kernel
theorem dL_law_777 : decode cL_law 777 = .ok (.aload_n 1, 1) := by decide +kernel
theorem dL_law_778 : decode cL_law 778 = .ok (.invokevirtual 83, 3) := by decide +kernel
theorem dL_law_781 : decode cL_law 781 = .ok (.aload_n 2, 1) := by decide +kernel
theorem dL_law_782 : decode cL_law 782 = .ok (.invokevirtual 86, 3) := by decide +kernel
theorem dL_law_785 : decode cL_law 785 = .ok (.if_icmp .eq 614, 3) := by decide +kernel
theorem dL_law_788 : decode cL_law 788 = .ok (.iconst 0, 1) := by decide +kernel
theorem dL_law_789 : decode cL_law 789 = .ok (.ireturn, 1) := by decide +kernel
theorem dL_law_790 : decode cL_law 790 = .ok (.aload_n 1, 1) := by decide +kernel
theorem dL_law_791 : decode cL_law 791 = .ok (.aload_n 0, 1) := by decide +kernel
theorem dL_law_792 : decode cL_law 792 = .ok (.iload_n 3, 1) := by decide +kernel
theorem dL_law_793 : decode cL_law 793 = .ok (.iconst 1, 1) := by decide +kernel
theorem dL_law_794 : decode cL_law 794 = .ok (.iadd, 1) := by decide +kernel
theorem dL_law_795 : decode cL_law 795 = .ok (.iaload, 1) := by decide +kernel
theorem dL_law_796 : decode cL_law 796 = .ok (.invokevirtual 87, 3) := by decide +kernel
theorem dL_law_799 : decode cL_law 799 = .ok (.aload_n 2, 1) := by decide +kernel
theorem dL_law_800 : decode cL_law 800 = .ok (.aload_n 0, 1) := by decide +kernel
theorem dL_law_801 : decode cL_law 801 = .ok (.iload_n 3, 1) := by decide +kernel
theorem dL_law_802 : decode cL_law 802 = .ok (.iconst 1, 1) := by decide +kernel
theorem dL_law_803 : decode cL_law 803 = .ok (.iadd, 1) := by decide +kernel
theorem dL_law_804 : decode cL_law 804 = .ok (.iaload, 1) := by decide +kernel
theorem dL_law_805 : decode cL_law 805 = .ok (.invokevirtual 90, 3) := by decide +kernel
theorem dL_law_808 : decode cL_law 808 = .ok (.if_icmp .eq 591, 3) := by decide +kernel
theorem dL_law_811 : decode cL_law 811 = .ok (.iconst 0, 1) := by decide +kernel
theorem dL_law_812 : decode cL_law 812 = .ok (.ireturn, 1) := by decide +kernel
theorem dL_law_813 : decode cL_law 813 = .ok (.aload_n 1, 1) := by decide +kernel
theorem dL_law_814 : decode cL_law 814 = .ok (.aload_n 0, 1) := by decide +kernel
theorem dL_law_815 : decode cL_law 815 = .ok (.iload_n 3, 1) := by decide +kernel
theorem dL_law_816 : decode cL_law 816 = .ok (.iconst 1, 1) := by decide +kernel
theorem dL_law_817 : decode cL_law 817 = .ok (.iadd, 1) := by decide +kernel
theorem dL_law_818 : decode cL_law 818 = .ok (.iaload, 1) := by decide +kernel
theorem dL_law_819 : decode cL_law 819 = .ok (.invokevirtual 91, 3) := by decide +kernel
theorem dL_law_822 : decode cL_law 822 = .ok (.aload_n 2, 1) := by decide +kernel
theorem dL_law_823 : decode cL_law 823 = .ok (.aload_n 0, 1) := by decide +kernel
theorem dL_law_824 : decode cL_law 824 = .ok (.iload_n 3, 1) := by decide +kernel
theorem dL_law_825 : decode cL_law 825 = .ok (.iconst 1, 1) := by decide +kernel
theorem dL_law_826 : decode cL_law 826 = .ok (.iadd, 1) := by decide +kernel
theorem dL_law_827 : decode cL_law 827 = .ok (.iaload, 1) := by decide +kernel
theorem dL_law_828 : decode cL_law 828 = .ok (.invokevirtual 94, 3) := by decide +kernel
theorem dL_law_831 : decode cL_law 831 = .ok (.if_icmp .eq 568, 3) := by decide +kernel
theorem dL_law_834 : decode cL_law 834 = .ok (.iconst 0, 1) := by decide +kernel
theorem dL_law_835 : decode cL_law 835 = .ok (.ireturn, 1) := by decide +kernel
theorem dL_law_836 : decode cL_law 836 = .ok (.aload_n 1, 1) := by decide +kernel
theorem dL_law_837 : decode cL_law 837 = .ok (.aload_n 0, 1) := by decide +kernel
theorem dL_law_838 : decode cL_law 838 = .ok (.iload_n 3, 1) := by decide +kernel
theorem dL_law_839 : decode cL_law 839 = .ok (.iconst 1, 1) := by decide +kernel
theorem dL_law_840 : decode cL_law 840 = .ok (.iadd, 1) := by decide +kernel
theorem dL_law_841 : decode cL_law 841 = .ok (.iaload, 1) := by decide +kernel
theorem dL_law_842 : decode cL_law 842 = .ok (.aload_n 0, 1) := by decide +kernel
theorem dL_law_843 : decode cL_law 843 = .ok (.iload_n 3, 1) := by decide +kernel
theorem dL_law_844 : decode cL_law 844 = .ok (.iconst 2, 1) := by decide +kernel
theorem dL_law_845 : decode cL_law 845 = .ok (.iadd, 1) := by decide +kernel
theorem dL_law_846 : decode cL_law 846 = .ok (.iaload, 1) := by decide +kernel
theorem dL_law_847 : decode cL_law 847 = .ok (.invokevirtual 95, 3) := by decide +kernel
theorem dL_law_850 : decode cL_law 850 = .ok (.aload_n 2, 1) := by decide +kernel
theorem dL_law_851 : decode cL_law 851 = .ok (.aload_n 0, 1) := by decide +kernel
theorem dL_law_852 : decode cL_law 852 = .ok (.iload_n 3, 1) := by decide +kernel
theorem dL_law_853 : decode cL_law 853 = .ok (.iconst 1, 1) := by decide +kernel
theorem dL_law_854 : decode cL_law 854 = .ok (.iadd, 1) := by decide +kernel
theorem dL_law_855 : decode cL_law 855 = .ok (.iaload, 1) := by decide +kernel
theorem dL_law_856 : decode cL_law 856 = .ok (.aload_n 0, 1) := by decide +kernel
theorem dL_law_857 : decode cL_law 857 = .ok (.iload_n 3, 1) := by decide +kernel
theorem dL_law_858 : decode cL_law 858 = .ok (.iconst 2, 1) := by decide +kernel
theorem dL_law_859 : decode cL_law 859 = .ok (.iadd, 1) := by decide +kernel
theorem dL_law_860 : decode cL_law 860 = .ok (.iaload, 1) := by decide +kernel
theorem dL_law_861 : decode cL_law 861 = .ok (.invokevirtual 98, 3) := by decide +kernel
theorem dL_law_864 : decode cL_law 864 = .ok (.if_icmp .eq 535, 3) := by decide +kernel
theorem dL_law_867 : decode cL_law 867 = .ok (.iconst 0, 1) := by decide +kernel
theorem dL_law_868 : decode cL_law 868 = .ok (.ireturn, 1) := by decide +kernel
theorem dL_law_869 : decode cL_law 869 = .ok (.aload_n 1, 1) := by decide +kernel
theorem dL_law_870 : decode cL_law 870 = .ok (.aload_n 0, 1) := by decide +kernel
theorem dL_law_871 : decode cL_law 871 = .ok (.iload_n 3, 1) := by decide +kernel
theorem dL_law_872 : decode cL_law 872 = .ok (.iconst 1, 1) := by decide +kernel
theorem dL_law_873 : decode cL_law 873 = .ok (.iadd, 1) := by decide +kernel
theorem dL_law_874 : decode cL_law 874 = .ok (.iaload, 1) := by decide +kernel
theorem dL_law_875 : decode cL_law 875 = .ok (.aload_n 0, 1) := by decide +kernel
theorem dL_law_876 : decode cL_law 876 = .ok (.iload_n 3, 1) := by decide +kernel
theorem dL_law_877 : decode cL_law 877 = .ok (.iconst 2, 1) := by decide +kernel
theorem dL_law_878 : decode cL_law 878 = .ok (.iadd, 1) := by decide +kernel
theorem dL_law_879 : decode cL_law 879 = .ok (.iaload, 1) := by decide +kernel
theorem dL_law_880 : decode cL_law 880 = .ok (.invokevirtual 99, 3) := by decide +kernel
theorem dL_law_883 : decode cL_law 883 = .ok (.aload_n 2, 1) := by decide +kernel
theorem dL_law_884 : decode cL_law 884 = .ok (.aload_n 0, 1) := by decide +kernel
theorem dL_law_885 : decode cL_law 885 = .ok (.iload_n 3, 1) := by decide +kernel
theorem dL_law_886 : decode cL_law 886 = .ok (.iconst 1, 1) := by decide +kernel
theorem dL_law_887 : decode cL_law 887 = .ok (.iadd, 1) := by decide +kernel
theorem dL_law_888 : decode cL_law 888 = .ok (.iaload, 1) := by decide +kernel
theorem dL_law_889 : decode cL_law 889 = .ok (.aload_n 0, 1) := by decide +kernel
theorem dL_law_890 : decode cL_law 890 = .ok (.iload_n 3, 1) := by decide +kernel
theorem dL_law_891 : decode cL_law 891 = .ok (.iconst 2, 1) := by decide +kernel
theorem dL_law_892 : decode cL_law 892 = .ok (.iadd, 1) := by decide +kernel
theorem dL_law_893 : decode cL_law 893 = .ok (.iaload, 1) := by decide +kernel
theorem dL_law_894 : decode cL_law 894 = .ok (.invokevirtual 102, 3) := by decide +kernel
theorem dL_law_897 : decode cL_law 897 = .ok (.if_icmp .eq 502, 3) := by decide +kernel
theorem dL_law_900 : decode cL_law 900 = .ok (.iconst 0, 1) := by decide +kernel
theorem dL_law_901 : decode cL_law 901 = .ok (.ireturn, 1) := by decide +kernel
theorem dL_law_902 : decode cL_law 902 = .ok (.aload_n 1, 1) := by decide +kernel
theorem dL_law_903 : decode cL_law 903 = .ok (.aload_n 0, 1) := by decide +kernel
theorem dL_law_904 : decode cL_law 904 = .ok (.iload_n 3, 1) := by decide +kernel
theorem dL_law_905 : decode cL_law 905 = .ok (.iconst 1, 1) := by decide +kernel
theorem dL_law_906 : decode cL_law 906 = .ok (.iadd, 1) := by decide +kernel
theorem dL_law_907 : decode cL_law 907 = .ok (.iaload, 1) := by decide +kernel
theorem dL_law_908 : decode cL_law 908 = .ok (.aload_n 0, 1) := by decide +kernel
theorem dL_law_909 : decode cL_law 909 = .ok (.iload_n 3, 1) := by decide +kernel
theorem dL_law_910 : decode cL_law 910 = .ok (.iconst 2, 1) := by decide +kernel
theorem dL_law_911 : decode cL_law 911 = .ok (.iadd, 1) := by decide +kernel
theorem dL_law_912 : decode cL_law 912 = .ok (.iaload, 1) := by decide +kernel
theorem dL_law_913 : decode cL_law 913 = .ok (.ifCond .eq 7, 3) := by decide +kernel
theorem dL_law_916 : decode cL_law 916 = .ok (.iconst 1, 1) := by decide +kernel
theorem dL_law_917 : decode cL_law 917 = .ok (.goto 4, 3) := by decide +kernel
theorem dL_law_920 : decode cL_law 920 = .ok (.iconst 0, 1) := by decide +kernel
theorem dL_law_921 : decode cL_law 921 = .ok (.aload_n 0, 1) := by decide +kernel
theorem dL_law_922 : decode cL_law 922 = .ok (.iload_n 3, 1) := by decide +kernel
theorem dL_law_923 : decode cL_law 923 = .ok (.iconst 3, 1) := by decide +kernel
theorem dL_law_924 : decode cL_law 924 = .ok (.iadd, 1) := by decide +kernel
theorem dL_law_925 : decode cL_law 925 = .ok (.iaload, 1) := by decide +kernel
theorem dL_law_926 : decode cL_law 926 = .ok (.invokevirtual 103, 3) := by decide +kernel
theorem dL_law_929 : decode cL_law 929 = .ok (.aload_n 2, 1) := by decide +kernel
theorem dL_law_930 : decode cL_law 930 = .ok (.aload_n 0, 1) := by decide +kernel
theorem dL_law_931 : decode cL_law 931 = .ok (.iload_n 3, 1) := by decide +kernel
theorem dL_law_932 : decode cL_law 932 = .ok (.iconst 1, 1) := by decide +kernel
theorem dL_law_933 : decode cL_law 933 = .ok (.iadd, 1) := by decide +kernel
theorem dL_law_934 : decode cL_law 934 = .ok (.iaload, 1) := by decide +kernel
theorem dL_law_935 : decode cL_law 935 = .ok (.aload_n 0, 1) := by decide +kernel
theorem dL_law_936 : decode cL_law 936 = .ok (.iload_n 3, 1) := by decide +kernel
theorem dL_law_937 : decode cL_law 937 = .ok (.iconst 2, 1) := by decide +kernel
theorem dL_law_938 : decode cL_law 938 = .ok (.iadd, 1) := by decide +kernel
theorem dL_law_939 : decode cL_law 939 = .ok (.iaload, 1) := by decide +kernel
theorem dL_law_940 : decode cL_law 940 = .ok (.ifCond .eq 7, 3) := by decide +kernel
theorem dL_law_943 : decode cL_law 943 = .ok (.iconst 1, 1) := by decide +kernel
theorem dL_law_944 : decode cL_law 944 = .ok (.goto 4, 3) := by decide +kernel
theorem dL_law_947 : decode cL_law 947 = .ok (.iconst 0, 1) := by decide +kernel
theorem dL_law_948 : decode cL_law 948 = .ok (.aload_n 0, 1) := by decide +kernel
theorem dL_law_949 : decode cL_law 949 = .ok (.iload_n 3, 1) := by decide +kernel
theorem dL_law_950 : decode cL_law 950 = .ok (.iconst 3, 1) := by decide +kernel
theorem dL_law_951 : decode cL_law 951 = .ok (.iadd, 1) := by decide +kernel
theorem dL_law_952 : decode cL_law 952 = .ok (.iaload, 1) := by decide +kernel
theorem dL_law_953 : decode cL_law 953 = .ok (.invokevirtual 107, 3) := by decide +kernel
theorem dL_law_956 : decode cL_law 956 = .ok (.if_icmp .eq 443, 3) := by decide +kernel
theorem dL_law_959 : decode cL_law 959 = .ok (.iconst 0, 1) := by decide +kernel
theorem dL_law_960 : decode cL_law 960 = .ok (.ireturn, 1) := by decide +kernel
theorem dL_law_961 : decode cL_law 961 = .ok (.aload_n 1, 1) := by decide +kernel
theorem dL_law_962 : decode cL_law 962 = .ok (.invokevirtual 108, 3) := by decide +kernel
theorem dL_law_965 : decode cL_law 965 = .ok (.aload_n 2, 1) := by decide +kernel
theorem dL_law_966 : decode cL_law 966 = .ok (.invokevirtual 111, 3) := by decide +kernel
theorem dL_law_969 : decode cL_law 969 = .ok (.if_icmp .eq 430, 3) := by decide +kernel
theorem dL_law_972 : decode cL_law 972 = .ok (.iconst 0, 1) := by decide +kernel
theorem dL_law_973 : decode cL_law 973 = .ok (.ireturn, 1) := by decide +kernel
theorem dL_law_974 : decode cL_law 974 = .ok (.aload_n 1, 1) := by decide +kernel
theorem dL_law_975 : decode cL_law 975 = .ok (.aload_n 0, 1) := by decide +kernel
theorem dL_law_976 : decode cL_law 976 = .ok (.iload_n 3, 1) := by decide +kernel
theorem dL_law_977 : decode cL_law 977 = .ok (.iconst 1, 1) := by decide +kernel
theorem dL_law_978 : decode cL_law 978 = .ok (.iadd, 1) := by decide +kernel
theorem dL_law_979 : decode cL_law 979 = .ok (.iaload, 1) := by decide +kernel
theorem dL_law_980 : decode cL_law 980 = .ok (.aload_n 0, 1) := by decide +kernel
theorem dL_law_981 : decode cL_law 981 = .ok (.iload_n 3, 1) := by decide +kernel
theorem dL_law_982 : decode cL_law 982 = .ok (.iconst 2, 1) := by decide +kernel
theorem dL_law_983 : decode cL_law 983 = .ok (.iadd, 1) := by decide +kernel
theorem dL_law_984 : decode cL_law 984 = .ok (.iaload, 1) := by decide +kernel
theorem dL_law_985 : decode cL_law 985 = .ok (.aload_n 0, 1) := by decide +kernel
theorem dL_law_986 : decode cL_law 986 = .ok (.iload_n 3, 1) := by decide +kernel
theorem dL_law_987 : decode cL_law 987 = .ok (.iconst 3, 1) := by decide +kernel
theorem dL_law_988 : decode cL_law 988 = .ok (.iadd, 1) := by decide +kernel
theorem dL_law_989 : decode cL_law 989 = .ok (.iaload, 1) := by decide +kernel
theorem dL_law_990 : decode cL_law 990 = .ok (.invokevirtual 112, 3) := by decide +kernel
theorem dL_law_993 : decode cL_law 993 = .ok (.aload_n 2, 1) := by decide +kernel
theorem dL_law_994 : decode cL_law 994 = .ok (.aload_n 0, 1) := by decide +kernel
theorem dL_law_995 : decode cL_law 995 = .ok (.iload_n 3, 1) := by decide +kernel
theorem dL_law_996 : decode cL_law 996 = .ok (.iconst 1, 1) := by decide +kernel
theorem dL_law_997 : decode cL_law 997 = .ok (.iadd, 1) := by decide +kernel
theorem dL_law_998 : decode cL_law 998 = .ok (.iaload, 1) := by decide +kernel
theorem dL_law_999 : decode cL_law 999 = .ok (.aload_n 0, 1) := by decide +kernel
theorem dL_law_1000 : decode cL_law 1000 = .ok (.iload_n 3, 1) := by decide +kernel
theorem dL_law_1001 : decode cL_law 1001 = .ok (.iconst 2, 1) := by decide +kernel
theorem dL_law_1002 : decode cL_law 1002 = .ok (.iadd, 1) := by decide +kernel
theorem dL_law_1003 : decode cL_law 1003 = .ok (.iaload, 1) := by decide +kernel
theorem dL_law_1004 : decode cL_law 1004 = .ok (.aload_n 0, 1) := by decide +kernel
theorem dL_law_1005 : decode cL_law 1005 = .ok (.iload_n 3, 1) := by decide +kernel
theorem dL_law_1006 : decode cL_law 1006 = .ok (.iconst 3, 1) := by decide +kernel
theorem dL_law_1007 : decode cL_law 1007 = .ok (.iadd, 1) := by decide +kernel
theorem dL_law_1008 : decode cL_law 1008 = .ok (.iaload, 1) := by decide +kernel
theorem dL_law_1009 : decode cL_law 1009 = .ok (.invokevirtual 115, 3) := by decide +kernel
theorem dL_law_1012 : decode cL_law 1012 = .ok (.if_icmp .eq 387, 3) := by decide +kernel
theorem dL_law_1015 : decode cL_law 1015 = .ok (.iconst 0, 1) := by decide +kernel
theorem dL_law_1016 : decode cL_law 1016 = .ok (.ireturn, 1) := by decide +kernel
theorem dL_law_1017 : decode cL_law 1017 = .ok (.aload_n 1, 1) := by decide +kernel
theorem dL_law_1018 : decode cL_law 1018 = .ok (.aload_n 0, 1) := by decide +kernel
theorem dL_law_1019 : decode cL_law 1019 = .ok (.iload_n 3, 1) := by decide +kernel
theorem dL_law_1020 : decode cL_law 1020 = .ok (.iconst 1, 1) := by decide +kernel
theorem dL_law_1021 : decode cL_law 1021 = .ok (.iadd, 1) := by decide +kernel
theorem dL_law_1022 : decode cL_law 1022 = .ok (.iaload, 1) := by decide +kernel
theorem dL_law_1023 : decode cL_law 1023 = .ok (.invokevirtual 116, 3) := by decide +kernel
theorem dL_law_1026 : decode cL_law 1026 = .ok (.aload_n 2, 1) := by decide +kernel
theorem dL_law_1027 : decode cL_law 1027 = .ok (.aload_n 0, 1) := by decide +kernel
theorem dL_law_1028 : decode cL_law 1028 = .ok (.iload_n 3, 1) := by decide +kernel
theorem dL_law_1029 : decode cL_law 1029 = .ok (.iconst 1, 1) := by decide +kernel
theorem dL_law_1030 : decode cL_law 1030 = .ok (.iadd, 1) := by decide +kernel
theorem dL_law_1031 : decode cL_law 1031 = .ok (.iaload, 1) := by decide +kernel
theorem dL_law_1032 : decode cL_law 1032 = .ok (.invokevirtual 119, 3) := by decide +kernel
theorem dL_law_1035 : decode cL_law 1035 = .ok (.if_icmp .eq 364, 3) := by decide +kernel
theorem dL_law_1038 : decode cL_law 1038 = .ok (.iconst 0, 1) := by decide +kernel
theorem dL_law_1039 : decode cL_law 1039 = .ok (.ireturn, 1) := by decide +kernel
theorem dL_law_1040 : decode cL_law 1040 = .ok (.aload_n 1, 1) := by decide +kernel
theorem dL_law_1041 : decode cL_law 1041 = .ok (.invokevirtual 120, 3) := by decide +kernel
theorem dL_law_1044 : decode cL_law 1044 = .ok (.aload_n 2, 1) := by decide +kernel
theorem dL_law_1045 : decode cL_law 1045 = .ok (.invokevirtual 123, 3) := by decide +kernel
theorem dL_law_1048 : decode cL_law 1048 = .ok (.if_icmp .eq 351, 3) := by decide +kernel
theorem dL_law_1051 : decode cL_law 1051 = .ok (.iconst 0, 1) := by decide +kernel
theorem dL_law_1052 : decode cL_law 1052 = .ok (.ireturn, 1) := by decide +kernel
theorem dL_law_1053 : decode cL_law 1053 = .ok (.aload_n 1, 1) := by decide +kernel
theorem dL_law_1054 : decode cL_law 1054 = .ok (.aload_n 0, 1) := by decide +kernel
theorem dL_law_1055 : decode cL_law 1055 = .ok (.iload_n 3, 1) := by decide +kernel
theorem dL_law_1056 : decode cL_law 1056 = .ok (.iconst 1, 1) := by decide +kernel
theorem dL_law_1057 : decode cL_law 1057 = .ok (.iadd, 1) := by decide +kernel
theorem dL_law_1058 : decode cL_law 1058 = .ok (.iaload, 1) := by decide +kernel
theorem dL_law_1059 : decode cL_law 1059 = .ok (.invokevirtual 124, 3) := by decide +kernel
theorem dL_law_1062 : decode cL_law 1062 = .ok (.aload_n 2, 1) := by decide +kernel
theorem dL_law_1063 : decode cL_law 1063 = .ok (.aload_n 0, 1) := by decide +kernel
theorem dL_law_1064 : decode cL_law 1064 = .ok (.iload_n 3, 1) := by decide +kernel
theorem dL_law_1065 : decode cL_law 1065 = .ok (.iconst 1, 1) := by decide +kernel
theorem dL_law_1066 : decode cL_law 1066 = .ok (.iadd, 1) := by decide +kernel
theorem dL_law_1067 : decode cL_law 1067 = .ok (.iaload, 1) := by decide +kernel
theorem dL_law_1068 : decode cL_law 1068 = .ok (.invokevirtual 127, 3) := by decide +kernel
theorem dL_law_1071 : decode cL_law 1071 = .ok (.if_icmp .eq 328, 3) := by decide +kernel
theorem dL_law_1074 : decode cL_law 1074 = .ok (.iconst 0, 1) := by decide +kernel
theorem dL_law_1075 : decode cL_law 1075 = .ok (.ireturn, 1) := by decide +kernel
theorem dL_law_1076 : decode cL_law 1076 = .ok (.aload_n 1, 1) := by decide +kernel
theorem dL_law_1077 : decode cL_law 1077 = .ok (.aload_n 0, 1) := by decide +kernel
theorem dL_law_1078 : decode cL_law 1078 = .ok (.iload_n 3, 1) := by decide +kernel
theorem dL_law_1079 : decode cL_law 1079 = .ok (.iconst 1, 1) := by decide +kernel
theorem dL_law_1080 : decode cL_law 1080 = .ok (.iadd, 1) := by decide +kernel
theorem dL_law_1081 : decode cL_law 1081 = .ok (.iaload, 1) := by decide +kernel
theorem dL_law_1082 : decode cL_law 1082 = .ok (.invokevirtual 128, 3) := by decide +kernel
theorem dL_law_1085 : decode cL_law 1085 = .ok (.aload_n 2, 1) := by decide +kernel
theorem dL_law_1086 : decode cL_law 1086 = .ok (.aload_n 0, 1) := by decide +kernel
theorem dL_law_1087 : decode cL_law 1087 = .ok (.iload_n 3, 1) := by decide +kernel
theorem dL_law_1088 : decode cL_law 1088 = .ok (.iconst 1, 1) := by decide +kernel
theorem dL_law_1089 : decode cL_law 1089 = .ok (.iadd, 1) := by decide +kernel
theorem dL_law_1090 : decode cL_law 1090 = .ok (.iaload, 1) := by decide +kernel
theorem dL_law_1091 : decode cL_law 1091 = .ok (.invokevirtual 131, 3) := by decide +kernel
theorem dL_law_1094 : decode cL_law 1094 = .ok (.if_icmp .eq 305, 3) := by decide +kernel
theorem dL_law_1097 : decode cL_law 1097 = .ok (.iconst 0, 1) := by decide +kernel
theorem dL_law_1098 : decode cL_law 1098 = .ok (.ireturn, 1) := by decide +kernel
theorem dL_law_1099 : decode cL_law 1099 = .ok (.aload_n 1, 1) := by decide +kernel
theorem dL_law_1100 : decode cL_law 1100 = .ok (.aload_n 0, 1) := by decide +kernel
theorem dL_law_1101 : decode cL_law 1101 = .ok (.iload_n 3, 1) := by decide +kernel
theorem dL_law_1102 : decode cL_law 1102 = .ok (.iconst 1, 1) := by decide +kernel
theorem dL_law_1103 : decode cL_law 1103 = .ok (.iadd, 1) := by decide +kernel
theorem dL_law_1104 : decode cL_law 1104 = .ok (.iaload, 1) := by decide +kernel
theorem dL_law_1105 : decode cL_law 1105 = .ok (.aload_n 0, 1) := by decide +kernel
theorem dL_law_1106 : decode cL_law 1106 = .ok (.iload_n 3, 1) := by decide +kernel
theorem dL_law_1107 : decode cL_law 1107 = .ok (.iconst 2, 1) := by decide +kernel
theorem dL_law_1108 : decode cL_law 1108 = .ok (.iadd, 1) := by decide +kernel
theorem dL_law_1109 : decode cL_law 1109 = .ok (.iaload, 1) := by decide +kernel
theorem dL_law_1110 : decode cL_law 1110 = .ok (.aload_n 0, 1) := by decide +kernel
theorem dL_law_1111 : decode cL_law 1111 = .ok (.iload_n 3, 1) := by decide +kernel
theorem dL_law_1112 : decode cL_law 1112 = .ok (.iconst 3, 1) := by decide +kernel
theorem dL_law_1113 : decode cL_law 1113 = .ok (.iadd, 1) := by decide +kernel
theorem dL_law_1114 : decode cL_law 1114 = .ok (.iaload, 1) := by decide +kernel
theorem dL_law_1115 : decode cL_law 1115 = .ok (.aload_n 0, 1) := by decide +kernel
theorem dL_law_1116 : decode cL_law 1116 = .ok (.iload_n 3, 1) := by decide +kernel
theorem dL_law_1117 : decode cL_law 1117 = .ok (.iconst 4, 1) := by decide +kernel
theorem dL_law_1118 : decode cL_law 1118 = .ok (.iadd, 1) := by decide +kernel
theorem dL_law_1119 : decode cL_law 1119 = .ok (.iaload, 1) := by decide +kernel
theorem dL_law_1120 : decode cL_law 1120 = .ok (.aload_n 0, 1) := by decide +kernel
theorem dL_law_1121 : decode cL_law 1121 = .ok (.iload_n 3, 1) := by decide +kernel
theorem dL_law_1122 : decode cL_law 1122 = .ok (.iconst 5, 1) := by decide +kernel
theorem dL_law_1123 : decode cL_law 1123 = .ok (.iadd, 1) := by decide +kernel
theorem dL_law_1124 : decode cL_law 1124 = .ok (.iaload, 1) := by decide +kernel
theorem dL_law_1125 : decode cL_law 1125 = .ok (.ifCond .eq 7, 3) := by decide +kernel
theorem dL_law_1128 : decode cL_law 1128 = .ok (.iconst 1, 1) := by decide +kernel
theorem dL_law_1129 : decode cL_law 1129 = .ok (.goto 4, 3) := by decide +kernel
theorem dL_law_1132 : decode cL_law 1132 = .ok (.iconst 0, 1) := by decide +kernel
theorem dL_law_1133 : decode cL_law 1133 = .ok (.invokevirtual 132, 3) := by decide +kernel
theorem dL_law_1136 : decode cL_law 1136 = .ok (.aload_n 2, 1) := by decide +kernel
theorem dL_law_1137 : decode cL_law 1137 = .ok (.aload_n 0, 1) := by decide +kernel
theorem dL_law_1138 : decode cL_law 1138 = .ok (.iload_n 3, 1) := by decide +kernel
theorem dL_law_1139 : decode cL_law 1139 = .ok (.iconst 1, 1) := by decide +kernel
theorem dL_law_1140 : decode cL_law 1140 = .ok (.iadd, 1) := by decide +kernel
theorem dL_law_1141 : decode cL_law 1141 = .ok (.iaload, 1) := by decide +kernel
theorem dL_law_1142 : decode cL_law 1142 = .ok (.aload_n 0, 1) := by decide +kernel
theorem dL_law_1143 : decode cL_law 1143 = .ok (.iload_n 3, 1) := by decide +kernel
theorem dL_law_1144 : decode cL_law 1144 = .ok (.iconst 2, 1) := by decide +kernel
theorem dL_law_1145 : decode cL_law 1145 = .ok (.iadd, 1) := by decide +kernel
theorem dL_law_1146 : decode cL_law 1146 = .ok (.iaload, 1) := by decide +kernel
theorem dL_law_1147 : decode cL_law 1147 = .ok (.aload_n 0, 1) := by decide +kernel
theorem dL_law_1148 : decode cL_law 1148 = .ok (.iload_n 3, 1) := by decide +kernel
theorem dL_law_1149 : decode cL_law 1149 = .ok (.iconst 3, 1) := by decide +kernel
theorem dL_law_1150 : decode cL_law 1150 = .ok (.iadd, 1) := by decide +kernel
theorem dL_law_1151 : decode cL_law 1151 = .ok (.iaload, 1) := by decide +kernel
theorem dL_law_1152 : decode cL_law 1152 = .ok (.aload_n 0, 1) := by decide +kernel
theorem dL_law_1153 : decode cL_law 1153 = .ok (.iload_n 3, 1) := by decide +kernel
theorem dL_law_1154 : decode cL_law 1154 = .ok (.iconst 4, 1) := by decide +kernel
theorem dL_law_1155 : decode cL_law 1155 = .ok (.iadd, 1) := by decide +kernel
theorem dL_law_1156 : decode cL_law 1156 = .ok (.iaload, 1) := by decide +kernel
theorem dL_law_1157 : decode cL_law 1157 = .ok (.aload_n 0, 1) := by decide +kernel
theorem dL_law_1158 : decode cL_law 1158 = .ok (.iload_n 3, 1) := by decide +kernel
theorem dL_law_1159 : decode cL_law 1159 = .ok (.iconst 5, 1) := by decide +kernel
theorem dL_law_1160 : decode cL_law 1160 = .ok (.iadd, 1) := by decide +kernel
theorem dL_law_1161 : decode cL_law 1161 = .ok (.iaload, 1) := by decide +kernel
theorem dL_law_1162 : decode cL_law 1162 = .ok (.ifCond .eq 7, 3) := by decide +kernel
theorem dL_law_1165 : decode cL_law 1165 = .ok (.iconst 1, 1) := by decide +kernel
theorem dL_law_1166 : decode cL_law 1166 = .ok (.goto 4, 3) := by decide +kernel
theorem dL_law_1169 : decode cL_law 1169 = .ok (.iconst 0, 1) := by decide +kernel
theorem dL_law_1170 : decode cL_law 1170 = .ok (.invokevirtual 136, 3) := by decide +kernel
theorem dL_law_1173 : decode cL_law 1173 = .ok (.if_icmp .eq 226, 3) := by decide +kernel
theorem dL_law_1176 : decode cL_law 1176 = .ok (.iconst 0, 1) := by decide +kernel
theorem dL_law_1177 : decode cL_law 1177 = .ok (.ireturn, 1) := by decide +kernel
theorem dL_law_1178 : decode cL_law 1178 = .ok (.aload_n 1, 1) := by decide +kernel
theorem dL_law_1179 : decode cL_law 1179 = .ok (.aload_n 0, 1) := by decide +kernel
theorem dL_law_1180 : decode cL_law 1180 = .ok (.iload_n 3, 1) := by decide +kernel
theorem dL_law_1181 : decode cL_law 1181 = .ok (.iconst 1, 1) := by decide +kernel
theorem dL_law_1182 : decode cL_law 1182 = .ok (.iadd, 1) := by decide +kernel
theorem dL_law_1183 : decode cL_law 1183 = .ok (.iaload, 1) := by decide +kernel
theorem dL_law_1184 : decode cL_law 1184 = .ok (.invokevirtual 137, 3) := by decide +kernel
theorem dL_law_1187 : decode cL_law 1187 = .ok (.aload_n 2, 1) := by decide +kernel
theorem dL_law_1188 : decode cL_law 1188 = .ok (.aload_n 0, 1) := by decide +kernel
theorem dL_law_1189 : decode cL_law 1189 = .ok (.iload_n 3, 1) := by decide +kernel
theorem dL_law_1190 : decode cL_law 1190 = .ok (.iconst 1, 1) := by decide +kernel
theorem dL_law_1191 : decode cL_law 1191 = .ok (.iadd, 1) := by decide +kernel
theorem dL_law_1192 : decode cL_law 1192 = .ok (.iaload, 1) := by decide +kernel
theorem dL_law_1193 : decode cL_law 1193 = .ok (.invokevirtual 141, 3) := by decide +kernel
theorem dL_law_1196 : decode cL_law 1196 = .ok (.if_icmp .eq 203, 3) := by decide +kernel
theorem dL_law_1199 : decode cL_law 1199 = .ok (.iconst 0, 1) := by decide +kernel
theorem dL_law_1200 : decode cL_law 1200 = .ok (.ireturn, 1) := by decide +kernel
theorem dL_law_1201 : decode cL_law 1201 = .ok (.aload_n 1, 1) := by decide +kernel
theorem dL_law_1202 : decode cL_law 1202 = .ok (.aload_n 0, 1) := by decide +kernel
theorem dL_law_1203 : decode cL_law 1203 = .ok (.iload_n 3, 1) := by decide +kernel
theorem dL_law_1204 : decode cL_law 1204 = .ok (.iconst 1, 1) := by decide +kernel
theorem dL_law_1205 : decode cL_law 1205 = .ok (.iadd, 1) := by decide +kernel
theorem dL_law_1206 : decode cL_law 1206 = .ok (.iaload, 1) := by decide +kernel
theorem dL_law_1207 : decode cL_law 1207 = .ok (.invokevirtual 142, 3) := by decide +kernel
theorem dL_law_1210 : decode cL_law 1210 = .ok (.aload_n 2, 1) := by decide +kernel
theorem dL_law_1211 : decode cL_law 1211 = .ok (.aload_n 0, 1) := by decide +kernel
theorem dL_law_1212 : decode cL_law 1212 = .ok (.iload_n 3, 1) := by decide +kernel
theorem dL_law_1213 : decode cL_law 1213 = .ok (.iconst 1, 1) := by decide +kernel
theorem dL_law_1214 : decode cL_law 1214 = .ok (.iadd, 1) := by decide +kernel
theorem dL_law_1215 : decode cL_law 1215 = .ok (.iaload, 1) := by decide +kernel
theorem dL_law_1216 : decode cL_law 1216 = .ok (.invokevirtual 145, 3) := by decide +kernel
theorem dL_law_1219 : decode cL_law 1219 = .ok (.if_icmp .eq 180, 3) := by decide +kernel
theorem dL_law_1222 : decode cL_law 1222 = .ok (.iconst 0, 1) := by decide +kernel
theorem dL_law_1223 : decode cL_law 1223 = .ok (.ireturn, 1) := by decide +kernel
theorem dL_law_1224 : decode cL_law 1224 = .ok (.aload_n 1, 1) := by decide +kernel
theorem dL_law_1225 : decode cL_law 1225 = .ok (.aload_n 0, 1) := by decide +kernel
theorem dL_law_1226 : decode cL_law 1226 = .ok (.iload_n 3, 1) := by decide +kernel
theorem dL_law_1227 : decode cL_law 1227 = .ok (.iconst 1, 1) := by decide +kernel
theorem dL_law_1228 : decode cL_law 1228 = .ok (.iadd, 1) := by decide +kernel
theorem dL_law_1229 : decode cL_law 1229 = .ok (.iaload, 1) := by decide +kernel
theorem dL_law_1230 : decode cL_law 1230 = .ok (.aload_n 0, 1) := by decide +kernel
theorem dL_law_1231 : decode cL_law 1231 = .ok (.iload_n 3, 1) := by decide +kernel
theorem dL_law_1232 : decode cL_law 1232 = .ok (.iconst 2, 1) := by decide +kernel
theorem dL_law_1233 : decode cL_law 1233 = .ok (.iadd, 1) := by decide +kernel
theorem dL_law_1234 : decode cL_law 1234 = .ok (.iaload, 1) := by decide +kernel
theorem dL_law_1235 : decode cL_law 1235 = .ok (.aload_n 0, 1) := by decide +kernel
theorem dL_law_1236 : decode cL_law 1236 = .ok (.iload_n 3, 1) := by decide +kernel
theorem dL_law_1237 : decode cL_law 1237 = .ok (.iconst 3, 1) := by decide +kernel
theorem dL_law_1238 : decode cL_law 1238 = .ok (.iadd, 1) := by decide +kernel
theorem dL_law_1239 : decode cL_law 1239 = .ok (.iaload, 1) := by decide +kernel
theorem dL_law_1240 : decode cL_law 1240 = .ok (.aload_n 0, 1) := by decide +kernel
theorem dL_law_1241 : decode cL_law 1241 = .ok (.iload_n 3, 1) := by decide +kernel
theorem dL_law_1242 : decode cL_law 1242 = .ok (.iconst 4, 1) := by decide +kernel
theorem dL_law_1243 : decode cL_law 1243 = .ok (.iadd, 1) := by decide +kernel
theorem dL_law_1244 : decode cL_law 1244 = .ok (.iaload, 1) := by decide +kernel
theorem dL_law_1245 : decode cL_law 1245 = .ok (.invokevirtual 146, 3) := by decide +kernel
theorem dL_law_1248 : decode cL_law 1248 = .ok (.aload_n 2, 1) := by decide +kernel
theorem dL_law_1249 : decode cL_law 1249 = .ok (.aload_n 0, 1) := by decide +kernel
theorem dL_law_1250 : decode cL_law 1250 = .ok (.iload_n 3, 1) := by decide +kernel
theorem dL_law_1251 : decode cL_law 1251 = .ok (.iconst 1, 1) := by decide +kernel
theorem dL_law_1252 : decode cL_law 1252 = .ok (.iadd, 1) := by decide +kernel
theorem dL_law_1253 : decode cL_law 1253 = .ok (.iaload, 1) := by decide +kernel
theorem dL_law_1254 : decode cL_law 1254 = .ok (.aload_n 0, 1) := by decide +kernel
theorem dL_law_1255 : decode cL_law 1255 = .ok (.iload_n 3, 1) := by decide +kernel
theorem dL_law_1256 : decode cL_law 1256 = .ok (.iconst 2, 1) := by decide +kernel
theorem dL_law_1257 : decode cL_law 1257 = .ok (.iadd, 1) := by decide +kernel
theorem dL_law_1258 : decode cL_law 1258 = .ok (.iaload, 1) := by decide +kernel
theorem dL_law_1259 : decode cL_law 1259 = .ok (.aload_n 0, 1) := by decide +kernel
theorem dL_law_1260 : decode cL_law 1260 = .ok (.iload_n 3, 1) := by decide +kernel
theorem dL_law_1261 : decode cL_law 1261 = .ok (.iconst 3, 1) := by decide +kernel
theorem dL_law_1262 : decode cL_law 1262 = .ok (.iadd, 1) := by decide +kernel
theorem dL_law_1263 : decode cL_law 1263 = .ok (.iaload, 1) := by decide +kernel
theorem dL_law_1264 : decode cL_law 1264 = .ok (.aload_n 0, 1) := by decide +kernel
theorem dL_law_1265 : decode cL_law 1265 = .ok (.iload_n 3, 1) := by decide +kernel
theorem dL_law_1266 : decode cL_law 1266 = .ok (.iconst 4, 1) := by decide +kernel
theorem dL_law_1267 : decode cL_law 1267 = .ok (.iadd, 1) := by decide +kernel
theorem dL_law_1268 : decode cL_law 1268 = .ok (.iaload, 1) := by decide +kernel
theorem dL_law_1269 : decode cL_law 1269 = .ok (.invokevirtual 149, 3) := by decide +kernel
theorem dL_law_1272 : decode cL_law 1272 = .ok (.if_icmp .eq 127, 3) := by decide +kernel
theorem dL_law_1275 : decode cL_law 1275 = .ok (.iconst 0, 1) := by decide +kernel
theorem dL_law_1276 : decode cL_law 1276 = .ok (.ireturn, 1) := by decide +kernel
theorem dL_law_1277 : decode cL_law 1277 = .ok (.aload_n 1, 1) := by decide +kernel
theorem dL_law_1278 : decode cL_law 1278 = .ok (.aload_n 0, 1) := by decide +kernel
theorem dL_law_1279 : decode cL_law 1279 = .ok (.iload_n 3, 1) := by decide +kernel
theorem dL_law_1280 : decode cL_law 1280 = .ok (.iconst 1, 1) := by decide +kernel
theorem dL_law_1281 : decode cL_law 1281 = .ok (.iadd, 1) := by decide +kernel
theorem dL_law_1282 : decode cL_law 1282 = .ok (.iaload, 1) := by decide +kernel
theorem dL_law_1283 : decode cL_law 1283 = .ok (.aload_n 0, 1) := by decide +kernel
theorem dL_law_1284 : decode cL_law 1284 = .ok (.iload_n 3, 1) := by decide +kernel
theorem dL_law_1285 : decode cL_law 1285 = .ok (.iconst 2, 1) := by decide +kernel
theorem dL_law_1286 : decode cL_law 1286 = .ok (.iadd, 1) := by decide +kernel
theorem dL_law_1287 : decode cL_law 1287 = .ok (.iaload, 1) := by decide +kernel
theorem dL_law_1288 : decode cL_law 1288 = .ok (.aload_n 0, 1) := by decide +kernel
theorem dL_law_1289 : decode cL_law 1289 = .ok (.iload_n 3, 1) := by decide +kernel
theorem dL_law_1290 : decode cL_law 1290 = .ok (.iconst 3, 1) := by decide +kernel
theorem dL_law_1291 : decode cL_law 1291 = .ok (.iadd, 1) := by decide +kernel
theorem dL_law_1292 : decode cL_law 1292 = .ok (.iaload, 1) := by decide +kernel
theorem dL_law_1293 : decode cL_law 1293 = .ok (.aload_n 0, 1) := by decide +kernel
theorem dL_law_1294 : decode cL_law 1294 = .ok (.iload_n 3, 1) := by decide +kernel
theorem dL_law_1295 : decode cL_law 1295 = .ok (.iconst 4, 1) := by decide +kernel
theorem dL_law_1296 : decode cL_law 1296 = .ok (.iadd, 1) := by decide +kernel
theorem dL_law_1297 : decode cL_law 1297 = .ok (.iaload, 1) := by decide +kernel
theorem dL_law_1298 : decode cL_law 1298 = .ok (.invokevirtual 150, 3) := by decide +kernel
theorem dL_law_1301 : decode cL_law 1301 = .ok (.aload_n 2, 1) := by decide +kernel
theorem dL_law_1302 : decode cL_law 1302 = .ok (.aload_n 0, 1) := by decide +kernel
theorem dL_law_1303 : decode cL_law 1303 = .ok (.iload_n 3, 1) := by decide +kernel
theorem dL_law_1304 : decode cL_law 1304 = .ok (.iconst 1, 1) := by decide +kernel
theorem dL_law_1305 : decode cL_law 1305 = .ok (.iadd, 1) := by decide +kernel
theorem dL_law_1306 : decode cL_law 1306 = .ok (.iaload, 1) := by decide +kernel
theorem dL_law_1307 : decode cL_law 1307 = .ok (.aload_n 0, 1) := by decide +kernel
theorem dL_law_1308 : decode cL_law 1308 = .ok (.iload_n 3, 1) := by decide +kernel
theorem dL_law_1309 : decode cL_law 1309 = .ok (.iconst 2, 1) := by decide +kernel
theorem dL_law_1310 : decode cL_law 1310 = .ok (.iadd, 1) := by decide +kernel
theorem dL_law_1311 : decode cL_law 1311 = .ok (.iaload, 1) := by decide +kernel
theorem dL_law_1312 : decode cL_law 1312 = .ok (.aload_n 0, 1) := by decide +kernel
theorem dL_law_1313 : decode cL_law 1313 = .ok (.iload_n 3, 1) := by decide +kernel
theorem dL_law_1314 : decode cL_law 1314 = .ok (.iconst 3, 1) := by decide +kernel
theorem dL_law_1315 : decode cL_law 1315 = .ok (.iadd, 1) := by decide +kernel
theorem dL_law_1316 : decode cL_law 1316 = .ok (.iaload, 1) := by decide +kernel
theorem dL_law_1317 : decode cL_law 1317 = .ok (.aload_n 0, 1) := by decide +kernel
theorem dL_law_1318 : decode cL_law 1318 = .ok (.iload_n 3, 1) := by decide +kernel
theorem dL_law_1319 : decode cL_law 1319 = .ok (.iconst 4, 1) := by decide +kernel
theorem dL_law_1320 : decode cL_law 1320 = .ok (.iadd, 1) := by decide +kernel
theorem dL_law_1321 : decode cL_law 1321 = .ok (.iaload, 1) := by decide +kernel
theorem dL_law_1322 : decode cL_law 1322 = .ok (.invokevirtual 153, 3) := by decide +kernel
theorem dL_law_1325 : decode cL_law 1325 = .ok (.if_icmp .eq 74, 3) := by decide +kernel
theorem dL_law_1328 : decode cL_law 1328 = .ok (.iconst 0, 1) := by decide +kernel
theorem dL_law_1329 : decode cL_law 1329 = .ok (.ireturn, 1) := by decide +kernel
theorem dL_law_1330 : decode cL_law 1330 = .ok (.aload_n 1, 1) := by decide +kernel
theorem dL_law_1331 : decode cL_law 1331 = .ok (.aload_n 0, 1) := by decide +kernel
theorem dL_law_1332 : decode cL_law 1332 = .ok (.iload_n 3, 1) := by decide +kernel
theorem dL_law_1333 : decode cL_law 1333 = .ok (.iconst 1, 1) := by decide +kernel
theorem dL_law_1334 : decode cL_law 1334 = .ok (.iadd, 1) := by decide +kernel
theorem dL_law_1335 : decode cL_law 1335 = .ok (.iaload, 1) := by decide +kernel
theorem dL_law_1336 : decode cL_law 1336 = .ok (.invokevirtual 154, 3) := by decide +kernel
theorem dL_law_1339 : decode cL_law 1339 = .ok (.aload_n 2, 1) := by decide +kernel
theorem dL_law_1340 : decode cL_law 1340 = .ok (.aload_n 0, 1) := by decide +kernel
theorem dL_law_1341 : decode cL_law 1341 = .ok (.iload_n 3, 1) := by decide +kernel
theorem dL_law_1342 : decode cL_law 1342 = .ok (.iconst 1, 1) := by decide +kernel
theorem dL_law_1343 : decode cL_law 1343 = .ok (.iadd, 1) := by decide +kernel
theorem dL_law_1344 : decode cL_law 1344 = .ok (.iaload, 1) := by decide +kernel
theorem dL_law_1345 : decode cL_law 1345 = .ok (.invokevirtual 157, 3) := by decide +kernel
theorem dL_law_1348 : decode cL_law 1348 = .ok (.if_icmp .eq 51, 3) := by decide +kernel
theorem dL_law_1351 : decode cL_law 1351 = .ok (.iconst 0, 1) := by decide +kernel
theorem dL_law_1352 : decode cL_law 1352 = .ok (.ireturn, 1) := by decide +kernel
theorem dL_law_1353 : decode cL_law 1353 = .ok (.aload_n 1, 1) := by decide +kernel
theorem dL_law_1354 : decode cL_law 1354 = .ok (.aload_n 0, 1) := by decide +kernel
theorem dL_law_1355 : decode cL_law 1355 = .ok (.iload_n 3, 1) := by decide +kernel
theorem dL_law_1356 : decode cL_law 1356 = .ok (.iconst 1, 1) := by decide +kernel
theorem dL_law_1357 : decode cL_law 1357 = .ok (.iadd, 1) := by decide +kernel
theorem dL_law_1358 : decode cL_law 1358 = .ok (.iaload, 1) := by decide +kernel
theorem dL_law_1359 : decode cL_law 1359 = .ok (.invokevirtual 158, 3) := by decide +kernel
theorem dL_law_1362 : decode cL_law 1362 = .ok (.aload_n 2, 1) := by decide +kernel
theorem dL_law_1363 : decode cL_law 1363 = .ok (.aload_n 0, 1) := by decide +kernel
theorem dL_law_1364 : decode cL_law 1364 = .ok (.iload_n 3, 1) := by decide +kernel
theorem dL_law_1365 : decode cL_law 1365 = .ok (.iconst 1, 1) := by decide +kernel
theorem dL_law_1366 : decode cL_law 1366 = .ok (.iadd, 1) := by decide +kernel
theorem dL_law_1367 : decode cL_law 1367 = .ok (.iaload, 1) := by decide +kernel
theorem dL_law_1368 : decode cL_law 1368 = .ok (.invokevirtual 161, 3) := by decide +kernel
theorem dL_law_1371 : decode cL_law 1371 = .ok (.if_icmp .eq 28, 3) := by decide +kernel
theorem dL_law_1374 : decode cL_law 1374 = .ok (.iconst 0, 1) := by decide +kernel
theorem dL_law_1375 : decode cL_law 1375 = .ok (.ireturn, 1) := by decide +kernel
theorem dL_law_1376 : decode cL_law 1376 = .ok (.aload_n 1, 1) := by decide +kernel
theorem dL_law_1377 : decode cL_law 1377 = .ok (.aload_n 0, 1) := by decide +kernel
theorem dL_law_1378 : decode cL_law 1378 = .ok (.iload_n 3, 1) := by decide +kernel
theorem dL_law_1379 : decode cL_law 1379 = .ok (.iconst 1, 1) := by decide +kernel
theorem dL_law_1380 : decode cL_law 1380 = .ok (.iadd, 1) := by decide +kernel
theorem dL_law_1381 : decode cL_law 1381 = .ok (.iaload, 1) := by decide +kernel
theorem dL_law_1382 : decode cL_law 1382 = .ok (.invokevirtual 162, 3) := by decide +kernel
theorem dL_law_1385 : decode cL_law 1385 = .ok (.aload_n 2, 1) := by decide +kernel
theorem dL_law_1386 : decode cL_law 1386 = .ok (.aload_n 0, 1) := by decide +kernel
theorem dL_law_1387 : decode cL_law 1387 = .ok (.iload_n 3, 1) := by decide +kernel
theorem dL_law_1388 : decode cL_law 1388 = .ok (.iconst 1, 1) := by decide +kernel
theorem dL_law_1389 : decode cL_law 1389 = .ok (.iadd, 1) := by decide +kernel
theorem dL_law_1390 : decode cL_law 1390 = .ok (.iaload, 1) := by decide +kernel
theorem dL_law_1391 : decode cL_law 1391 = .ok (.invokevirtual 165, 3) := by decide +kernel
theorem dL_law_1394 : decode cL_law 1394 = .ok (.if_icmp .eq 5, 3) := by decide +kernel
theorem dL_law_1397 : decode cL_law 1397 = .ok (.iconst 0, 1) := by decide +kernel
theorem dL_law_1398 : decode cL_law 1398 = .ok (.ireturn, 1) := by decide +kernel
theorem dL_law_1399 : decode cL_law 1399 = .ok (.iinc 3 6, 3) := by decide +kernel
theorem dL_law_1402 : decode cL_law 1402 = .ok (.goto (-1384), 3) := by decide +kernel
theorem dL_law_1405 : decode cL_law 1405 = .ok (.iconst 1, 1) := by decide +kernel
theorem dL_law_1406 : decode cL_law 1406 = .ok (.ireturn, 1) := by decide +kernel
theorem wm_X11_feed : Cond.instanceMethod yX11_feed ∈ TB ∧ Cond.selects yX11_feed.cls yX11_feed yX11_feed ∈ TB ∧ Cond.initialized yX11_feed.cls ∈ TB ∧ Cond.code yX11_feed cX11_feed 6 (some .int) ∈ TB ∧ (yX11_feed.cls ≠ "java/lang/invoke/MethodHandle" ∧ yX11_feed.cls ≠ "java/lang/invoke/VarHandle" ∧ (parseMethodDescriptor yX11_feed.desc).map (fun d => d.parameters.length) = some 5) ∧ 6 ≤ 21 := ⟨tbm 663 (by decide +kernel) (by decide +kernel), tbm 664 (by decide +kernel) (by decide +kernel), tbm 134 (by decide +kernel) (by decide +kernel), tbm 665 (by decide +kernel) (by decide +kernel), by decide +kernel, by decide⟩
theorem wi_RL_13 : Iv RL 13 yX11_feed cX11_feed 6 (some .int) 5 := ⟨tbm 662 (by decide +kernel) (by decide +kernel), wm_X11_feed⟩
theorem wm_X12_feed : Cond.instanceMethod yX12_feed ∈ TB ∧ Cond.selects yX12_feed.cls yX12_feed yX12_feed ∈ TB ∧ Cond.initialized yX12_feed.cls ∈ TB ∧ Cond.code yX12_feed cX12_feed 6 (some .int) ∈ TB ∧ (yX12_feed.cls ≠ "java/lang/invoke/MethodHandle" ∧ yX12_feed.cls ≠ "java/lang/invoke/VarHandle" ∧ (parseMethodDescriptor yX12_feed.desc).map (fun d => d.parameters.length) = some 5) ∧ 6 ≤ 21 := ⟨tbm 1690 (by decide +kernel) (by decide +kernel), tbm 1691 (by decide +kernel) (by decide +kernel), tbm 146 (by decide +kernel) (by decide +kernel), tbm 1692 (by decide +kernel) (by decide +kernel), by decide +kernel, by decide⟩
theorem wi_RL_17 : Iv RL 17 yX12_feed cX12_feed 6 (some .int) 5 := ⟨tbm 1689 (by decide +kernel) (by decide +kernel), wm_X12_feed⟩
theorem wm_X11_end : Cond.instanceMethod yX11_end ∈ TB ∧ Cond.selects yX11_end.cls yX11_end yX11_end ∈ TB ∧ Cond.initialized yX11_end.cls ∈ TB ∧ Cond.code yX11_end cX11_end 2 (some .int) ∈ TB ∧ (yX11_end.cls ≠ "java/lang/invoke/MethodHandle" ∧ yX11_end.cls ≠ "java/lang/invoke/VarHandle" ∧ (parseMethodDescriptor yX11_end.desc).map (fun d => d.parameters.length) = some 1) ∧ 2 ≤ 21 := ⟨tbm 671 (by decide +kernel) (by decide +kernel), tbm 672 (by decide +kernel) (by decide +kernel), tbm 134 (by decide +kernel) (by decide +kernel), tbm 673 (by decide +kernel) (by decide +kernel), by decide +kernel, by decide⟩
theorem wi_RL_18 : Iv RL 18 yX11_end cX11_end 2 (some .int) 1 := ⟨tbm 670 (by decide +kernel) (by decide +kernel), wm_X11_end⟩
theorem wm_X12_end : Cond.instanceMethod yX12_end ∈ TB ∧ Cond.selects yX12_end.cls yX12_end yX12_end ∈ TB ∧ Cond.initialized yX12_end.cls ∈ TB ∧ Cond.code yX12_end cX12_end 2 (some .int) ∈ TB ∧ (yX12_end.cls ≠ "java/lang/invoke/MethodHandle" ∧ yX12_end.cls ≠ "java/lang/invoke/VarHandle" ∧ (parseMethodDescriptor yX12_end.desc).map (fun d => d.parameters.length) = some 1) ∧ 2 ≤ 21 := ⟨tbm 1698 (by decide +kernel) (by decide +kernel), tbm 1699 (by decide +kernel) (by decide +kernel), tbm 146 (by decide +kernel) (by decide +kernel), tbm 1700 (by decide +kernel) (by decide +kernel), by decide +kernel, by decide⟩
theorem wi_RL_22 : Iv RL 22 yX12_end cX12_end 2 (some .int) 1 := ⟨tbm 1697 (by decide +kernel) (by decide +kernel), wm_X12_end⟩
theorem wm_X11_city : Cond.instanceMethod yX11_city ∈ TB ∧ Cond.selects yX11_city.cls yX11_city yX11_city ∈ TB ∧ Cond.initialized yX11_city.cls ∈ TB ∧ Cond.code yX11_city cX11_city 3 (some .int) ∈ TB ∧ (yX11_city.cls ≠ "java/lang/invoke/MethodHandle" ∧ yX11_city.cls ≠ "java/lang/invoke/VarHandle" ∧ (parseMethodDescriptor yX11_city.desc).map (fun d => d.parameters.length) = some 0) ∧ 3 ≤ 21 := ⟨tbm 675 (by decide +kernel) (by decide +kernel), tbm 676 (by decide +kernel) (by decide +kernel), tbm 134 (by decide +kernel) (by decide +kernel), tbm 677 (by decide +kernel) (by decide +kernel), by decide +kernel, by decide⟩
theorem wi_RL_23 : Iv RL 23 yX11_city cX11_city 3 (some .int) 0 := ⟨tbm 674 (by decide +kernel) (by decide +kernel), wm_X11_city⟩
theorem wm_X12_city : Cond.instanceMethod yX12_city ∈ TB ∧ Cond.selects yX12_city.cls yX12_city yX12_city ∈ TB ∧ Cond.initialized yX12_city.cls ∈ TB ∧ Cond.code yX12_city cX12_city 2 (some .int) ∈ TB ∧ (yX12_city.cls ≠ "java/lang/invoke/MethodHandle" ∧ yX12_city.cls ≠ "java/lang/invoke/VarHandle" ∧ (parseMethodDescriptor yX12_city.desc).map (fun d => d.parameters.length) = some 0) ∧ 2 ≤ 21 := ⟨tbm 1702 (by decide +kernel) (by decide +kernel), tbm 1703 (by decide +kernel) (by decide +kernel), tbm 146 (by decide +kernel) (by decide +kernel), tbm 1704 (by decide +kernel) (by decide +kernel), by decide +kernel, by decide⟩
theorem wi_RL_27 : Iv RL 27 yX12_city cX12_city 2 (some .int) 0 := ⟨tbm 1701 (by decide +kernel) (by decide +kernel), wm_X12_city⟩
theorem wm_X11_fault : Cond.instanceMethod yX11_fault ∈ TB ∧ Cond.selects yX11_fault.cls yX11_fault yX11_fault ∈ TB ∧ Cond.initialized yX11_fault.cls ∈ TB ∧ Cond.code yX11_fault cX11_fault 2 (some .int) ∈ TB ∧ (yX11_fault.cls ≠ "java/lang/invoke/MethodHandle" ∧ yX11_fault.cls ≠ "java/lang/invoke/VarHandle" ∧ (parseMethodDescriptor yX11_fault.desc).map (fun d => d.parameters.length) = some 1) ∧ 2 ≤ 21 := ⟨tbm 1017 (by decide +kernel) (by decide +kernel), tbm 1018 (by decide +kernel) (by decide +kernel), tbm 134 (by decide +kernel) (by decide +kernel), tbm 1019 (by decide +kernel) (by decide +kernel), by decide +kernel, by decide⟩
theorem wi_RL_28 : Iv RL 28 yX11_fault cX11_fault 2 (some .int) 1 := ⟨tbm 1016 (by decide +kernel) (by decide +kernel), wm_X11_fault⟩
theorem wm_X12_fault : Cond.instanceMethod yX12_fault ∈ TB ∧ Cond.selects yX12_fault.cls yX12_fault yX12_fault ∈ TB ∧ Cond.initialized yX12_fault.cls ∈ TB ∧ Cond.code yX12_fault cX12_fault 2 (some .int) ∈ TB ∧ (yX12_fault.cls ≠ "java/lang/invoke/MethodHandle" ∧ yX12_fault.cls ≠ "java/lang/invoke/VarHandle" ∧ (parseMethodDescriptor yX12_fault.desc).map (fun d => d.parameters.length) = some 1) ∧ 2 ≤ 21 := ⟨tbm 1871 (by decide +kernel) (by decide +kernel), tbm 1872 (by decide +kernel) (by decide +kernel), tbm 146 (by decide +kernel) (by decide +kernel), tbm 1873 (by decide +kernel) (by decide +kernel), by decide +kernel, by decide⟩
theorem wi_RL_31 : Iv RL 31 yX12_fault cX12_fault 2 (some .int) 1 := ⟨tbm 1870 (by decide +kernel) (by decide +kernel), wm_X12_fault⟩
theorem wm_X11_thing : Cond.instanceMethod yX11_thing ∈ TB ∧ Cond.selects yX11_thing.cls yX11_thing yX11_thing ∈ TB ∧ Cond.initialized yX11_thing.cls ∈ TB ∧ Cond.code yX11_thing cX11_thing 4 (some .int) ∈ TB ∧ (yX11_thing.cls ≠ "java/lang/invoke/MethodHandle" ∧ yX11_thing.cls ≠ "java/lang/invoke/VarHandle" ∧ (parseMethodDescriptor yX11_thing.desc).map (fun d => d.parameters.length) = some 2) ∧ 4 ≤ 21 := ⟨tbm 1021 (by decide +kernel) (by decide +kernel), tbm 1022 (by decide +kernel) (by decide +kernel), tbm 134 (by decide +kernel) (by decide +kernel), tbm 1023 (by decide +kernel) (by decide +kernel), by decide +kernel, by decide⟩
theorem wi_RL_32 : Iv RL 32 yX11_thing cX11_thing 4 (some .int) 2 := ⟨tbm 1020 (by decide +kernel) (by decide +kernel), wm_X11_thing⟩
theorem wm_X12_thing : Cond.instanceMethod yX12_thing ∈ TB ∧ Cond.selects yX12_thing.cls yX12_thing yX12_thing ∈ TB ∧ Cond.initialized yX12_thing.cls ∈ TB ∧ Cond.code yX12_thing cX12_thing 3 (some .int) ∈ TB ∧ (yX12_thing.cls ≠ "java/lang/invoke/MethodHandle" ∧ yX12_thing.cls ≠ "java/lang/invoke/VarHandle" ∧ (parseMethodDescriptor yX12_thing.desc).map (fun d => d.parameters.length) = some 2) ∧ 3 ≤ 21 := ⟨tbm 1875 (by decide +kernel) (by decide +kernel), tbm 1876 (by decide +kernel) (by decide +kernel), tbm 146 (by decide +kernel) (by decide +kernel), tbm 1877 (by decide +kernel) (by decide +kernel), by decide +kernel, by decide⟩
theorem wi_RL_36 : Iv RL 36 yX12_thing cX12_thing 3 (some .int) 2 := ⟨tbm 1874 (by decide +kernel) (by decide +kernel), wm_X12_thing⟩
theorem wm_X11_worth : Cond.instanceMethod yX11_worth ∈ TB ∧ Cond.selects yX11_worth.cls yX11_worth yX11_worth ∈ TB ∧ Cond.initialized yX11_worth.cls ∈ TB ∧ Cond.code yX11_worth cX11_worth 5 (some .int) ∈ TB ∧ (yX11_worth.cls ≠ "java/lang/invoke/MethodHandle" ∧ yX11_worth.cls ≠ "java/lang/invoke/VarHandle" ∧ (parseMethodDescriptor yX11_worth.desc).map (fun d => d.parameters.length) = some 3) ∧ 5 ≤ 21 := ⟨tbm 1033 (by decide +kernel) (by decide +kernel), tbm 1034 (by decide +kernel) (by decide +kernel), tbm 134 (by decide +kernel) (by decide +kernel), tbm 1035 (by decide +kernel) (by decide +kernel), by decide +kernel, by decide⟩
theorem wi_RL_37 : Iv RL 37 yX11_worth cX11_worth 5 (some .int) 3 := ⟨tbm 1032 (by decide +kernel) (by decide +kernel), wm_X11_worth⟩
theorem wm_X12_worth : Cond.instanceMethod yX12_worth ∈ TB ∧ Cond.selects yX12_worth.cls yX12_worth yX12_worth ∈ TB ∧ Cond.initialized yX12_worth.cls ∈ TB ∧ Cond.code yX12_worth cX12_worth 4 (some .int) ∈ TB ∧ (yX12_worth.cls ≠ "java/lang/invoke/MethodHandle" ∧ yX12_worth.cls ≠ "java/lang/invoke/VarHandle" ∧ (parseMethodDescriptor yX12_worth.desc).map (fun d => d.parameters.length) = some 3) ∧ 4 ≤ 21 := ⟨tbm 1886 (by decide +kernel) (by decide +kernel), tbm 1887 (by decide +kernel) (by decide +kernel), tbm 146 (by decide +kernel) (by decide +kernel), tbm 1888 (by decide +kernel) (by decide +kernel), by decide +kernel, by decide⟩
theorem wi_RL_41 : Iv RL 41 yX12_worth cX12_worth 4 (some .int) 3 := ⟨tbm 1885 (by decide +kernel) (by decide +kernel), wm_X12_worth⟩
theorem wm_X11_has : Cond.instanceMethod yX11_has ∈ TB ∧ Cond.selects yX11_has.cls yX11_has yX11_has ∈ TB ∧ Cond.initialized yX11_has.cls ∈ TB ∧ Cond.code yX11_has cX11_has 4 (some .int) ∈ TB ∧ (yX11_has.cls ≠ "java/lang/invoke/MethodHandle" ∧ yX11_has.cls ≠ "java/lang/invoke/VarHandle" ∧ (parseMethodDescriptor yX11_has.desc).map (fun d => d.parameters.length) = some 2) ∧ 4 ≤ 21 := ⟨tbm 1053 (by decide +kernel) (by decide +kernel), tbm 1054 (by decide +kernel) (by decide +kernel), tbm 134 (by decide +kernel) (by decide +kernel), tbm 1055 (by decide +kernel) (by decide +kernel), by decide +kernel, by decide⟩
theorem wi_RL_42 : Iv RL 42 yX11_has cX11_has 4 (some .int) 2 := ⟨tbm 1052 (by decide +kernel) (by decide +kernel), wm_X11_has⟩
theorem wm_X12_has : Cond.instanceMethod yX12_has ∈ TB ∧ Cond.selects yX12_has.cls yX12_has yX12_has ∈ TB ∧ Cond.initialized yX12_has.cls ∈ TB ∧ Cond.code yX12_has cX12_has 3 (some .int) ∈ TB ∧ (yX12_has.cls ≠ "java/lang/invoke/MethodHandle" ∧ yX12_has.cls ≠ "java/lang/invoke/VarHandle" ∧ (parseMethodDescriptor yX12_has.desc).map (fun d => d.parameters.length) = some 2) ∧ 3 ≤ 21 := ⟨tbm 1906 (by decide +kernel) (by decide +kernel), tbm 1907 (by decide +kernel) (by decide +kernel), tbm 146 (by decide +kernel) (by decide +kernel), tbm 1908 (by decide +kernel) (by decide +kernel), by decide +kernel, by decide⟩
theorem wi_RL_46 : Iv RL 46 yX12_has cX12_has 3 (some .int) 2 := ⟨tbm 1905 (by decide +kernel) (by decide +kernel), wm_X12_has⟩
theorem wm_X11_sum : Cond.instanceMethod yX11_sum ∈ TB ∧ Cond.selects yX11_sum.cls yX11_sum yX11_sum ∈ TB ∧ Cond.initialized yX11_sum.cls ∈ TB ∧ Cond.code yX11_sum cX11_sum 4 (some .int) ∈ TB ∧ (yX11_sum.cls ≠ "java/lang/invoke/MethodHandle" ∧ yX11_sum.cls ≠ "java/lang/invoke/VarHandle" ∧ (parseMethodDescriptor yX11_sum.desc).map (fun d => d.parameters.length) = some 2) ∧ 4 ≤ 21 := ⟨tbm 1057 (by decide +kernel) (by decide +kernel), tbm 1058 (by decide +kernel) (by decide +kernel), tbm 134 (by decide +kernel) (by decide +kernel), tbm 1059 (by decide +kernel) (by decide +kernel), by decide +kernel, by decide⟩
theorem wi_RL_47 : Iv RL 47 yX11_sum cX11_sum 4 (some .int) 2 := ⟨tbm 1056 (by decide +kernel) (by decide +kernel), wm_X11_sum⟩
theorem wm_X12_sum : Cond.instanceMethod yX12_sum ∈ TB ∧ Cond.selects yX12_sum.cls yX12_sum yX12_sum ∈ TB ∧ Cond.initialized yX12_sum.cls ∈ TB ∧ Cond.code yX12_sum cX12_sum 3 (some .int) ∈ TB ∧ (yX12_sum.cls ≠ "java/lang/invoke/MethodHandle" ∧ yX12_sum.cls ≠ "java/lang/invoke/VarHandle" ∧ (parseMethodDescriptor yX12_sum.desc).map (fun d => d.parameters.length) = some 2) ∧ 3 ≤ 21 := ⟨tbm 1921 (by decide +kernel) (by decide +kernel), tbm 1922 (by decide +kernel) (by decide +kernel), tbm 146 (by decide +kernel) (by decide +kernel), tbm 1923 (by decide +kernel) (by decide +kernel), by decide +kernel, by decide⟩
theorem wi_RL_50 : Iv RL 50 yX12_sum cX12_sum 3 (some .int) 2 := ⟨tbm 1920 (by decide +kernel) (by decide +kernel), wm_X12_sum⟩
theorem wm_X11_thief : Cond.instanceMethod yX11_thief ∈ TB ∧ Cond.selects yX11_thief.cls yX11_thief yX11_thief ∈ TB ∧ Cond.initialized yX11_thief.cls ∈ TB ∧ Cond.code yX11_thief cX11_thief 3 (some .int) ∈ TB ∧ (yX11_thief.cls ≠ "java/lang/invoke/MethodHandle" ∧ yX11_thief.cls ≠ "java/lang/invoke/VarHandle" ∧ (parseMethodDescriptor yX11_thief.desc).map (fun d => d.parameters.length) = some 2) ∧ 3 ≤ 21 := ⟨tbm 1066 (by decide +kernel) (by decide +kernel), tbm 1067 (by decide +kernel) (by decide +kernel), tbm 134 (by decide +kernel) (by decide +kernel), tbm 1068 (by decide +kernel) (by decide +kernel), by decide +kernel, by decide⟩
theorem wi_RL_51 : Iv RL 51 yX11_thief cX11_thief 3 (some .int) 2 := ⟨tbm 1065 (by decide +kernel) (by decide +kernel), wm_X11_thief⟩
theorem wm_X12_thief : Cond.instanceMethod yX12_thief ∈ TB ∧ Cond.selects yX12_thief.cls yX12_thief yX12_thief ∈ TB ∧ Cond.initialized yX12_thief.cls ∈ TB ∧ Cond.code yX12_thief cX12_thief 3 (some .int) ∈ TB ∧ (yX12_thief.cls ≠ "java/lang/invoke/MethodHandle" ∧ yX12_thief.cls ≠ "java/lang/invoke/VarHandle" ∧ (parseMethodDescriptor yX12_thief.desc).map (fun d => d.parameters.length) = some 2) ∧ 3 ≤ 21 := ⟨tbm 1929 (by decide +kernel) (by decide +kernel), tbm 1930 (by decide +kernel) (by decide +kernel), tbm 146 (by decide +kernel) (by decide +kernel), tbm 1931 (by decide +kernel) (by decide +kernel), by decide +kernel, by decide⟩
theorem wi_RL_54 : Iv RL 54 yX12_thief cX12_thief 3 (some .int) 2 := ⟨tbm 1928 (by decide +kernel) (by decide +kernel), wm_X12_thief⟩
theorem wm_X11_minutes : Cond.instanceMethod yX11_minutes ∈ TB ∧ Cond.selects yX11_minutes.cls yX11_minutes yX11_minutes ∈ TB ∧ Cond.initialized yX11_minutes.cls ∈ TB ∧ Cond.code yX11_minutes cX11_minutes 4 (some .int) ∈ TB ∧ (yX11_minutes.cls ≠ "java/lang/invoke/MethodHandle" ∧ yX11_minutes.cls ≠ "java/lang/invoke/VarHandle" ∧ (parseMethodDescriptor yX11_minutes.desc).map (fun d => d.parameters.length) = some 3) ∧ 4 ≤ 21 := ⟨tbm 1074 (by decide +kernel) (by decide +kernel), tbm 1075 (by decide +kernel) (by decide +kernel), tbm 134 (by decide +kernel) (by decide +kernel), tbm 1076 (by decide +kernel) (by decide +kernel), by decide +kernel, by decide⟩
theorem wi_RL_55 : Iv RL 55 yX11_minutes cX11_minutes 4 (some .int) 3 := ⟨tbm 1073 (by decide +kernel) (by decide +kernel), wm_X11_minutes⟩
theorem wm_X12_minutes : Cond.instanceMethod yX12_minutes ∈ TB ∧ Cond.selects yX12_minutes.cls yX12_minutes yX12_minutes ∈ TB ∧ Cond.initialized yX12_minutes.cls ∈ TB ∧ Cond.code yX12_minutes cX12_minutes 4 (some .int) ∈ TB ∧ (yX12_minutes.cls ≠ "java/lang/invoke/MethodHandle" ∧ yX12_minutes.cls ≠ "java/lang/invoke/VarHandle" ∧ (parseMethodDescriptor yX12_minutes.desc).map (fun d => d.parameters.length) = some 3) ∧ 4 ≤ 21 := ⟨tbm 1937 (by decide +kernel) (by decide +kernel), tbm 1938 (by decide +kernel) (by decide +kernel), tbm 146 (by decide +kernel) (by decide +kernel), tbm 1939 (by decide +kernel) (by decide +kernel), by decide +kernel, by decide⟩
theorem wi_RL_59 : Iv RL 59 yX12_minutes cX12_minutes 4 (some .int) 3 := ⟨tbm 1936 (by decide +kernel) (by decide +kernel), wm_X12_minutes⟩
theorem wm_X11_may : Cond.instanceMethod yX11_may ∈ TB ∧ Cond.selects yX11_may.cls yX11_may yX11_may ∈ TB ∧ Cond.initialized yX11_may.cls ∈ TB ∧ Cond.code yX11_may cX11_may 6 (some .int) ∈ TB ∧ (yX11_may.cls ≠ "java/lang/invoke/MethodHandle" ∧ yX11_may.cls ≠ "java/lang/invoke/VarHandle" ∧ (parseMethodDescriptor yX11_may.desc).map (fun d => d.parameters.length) = some 5) ∧ 6 ≤ 21 := ⟨tbm 1083 (by decide +kernel) (by decide +kernel), tbm 1084 (by decide +kernel) (by decide +kernel), tbm 134 (by decide +kernel) (by decide +kernel), tbm 1085 (by decide +kernel) (by decide +kernel), by decide +kernel, by decide⟩
theorem wi_RL_60 : Iv RL 60 yX11_may cX11_may 6 (some .int) 5 := ⟨tbm 1082 (by decide +kernel) (by decide +kernel), wm_X11_may⟩
theorem wm_X12_may : Cond.instanceMethod yX12_may ∈ TB ∧ Cond.selects yX12_may.cls yX12_may yX12_may ∈ TB ∧ Cond.initialized yX12_may.cls ∈ TB ∧ Cond.code yX12_may cX12_may 6 (some .int) ∈ TB ∧ (yX12_may.cls ≠ "java/lang/invoke/MethodHandle" ∧ yX12_may.cls ≠ "java/lang/invoke/VarHandle" ∧ (parseMethodDescriptor yX12_may.desc).map (fun d => d.parameters.length) = some 5) ∧ 6 ≤ 21 := ⟨tbm 1945 (by decide +kernel) (by decide +kernel), tbm 1946 (by decide +kernel) (by decide +kernel), tbm 146 (by decide +kernel) (by decide +kernel), tbm 1947 (by decide +kernel) (by decide +kernel), by decide +kernel, by decide⟩
theorem wi_RL_63 : Iv RL 63 yX12_may cX12_may 6 (some .int) 5 := ⟨tbm 1944 (by decide +kernel) (by decide +kernel), wm_X12_may⟩
theorem wm_X11_theft : Cond.instanceMethod yX11_theft ∈ TB ∧ Cond.selects yX11_theft.cls yX11_theft yX11_theft ∈ TB ∧ Cond.initialized yX11_theft.cls ∈ TB ∧ Cond.code yX11_theft cX11_theft 6 (some .int) ∈ TB ∧ (yX11_theft.cls ≠ "java/lang/invoke/MethodHandle" ∧ yX11_theft.cls ≠ "java/lang/invoke/VarHandle" ∧ (parseMethodDescriptor yX11_theft.desc).map (fun d => d.parameters.length) = some 4) ∧ 6 ≤ 21 := ⟨tbm 1119 (by decide +kernel) (by decide +kernel), tbm 1120 (by decide +kernel) (by decide +kernel), tbm 134 (by decide +kernel) (by decide +kernel), tbm 1121 (by decide +kernel) (by decide +kernel), by decide +kernel, by decide⟩
theorem wi_RL_64 : Iv RL 64 yX11_theft cX11_theft 6 (some .int) 4 := ⟨tbm 1118 (by decide +kernel) (by decide +kernel), wm_X11_theft⟩
theorem wm_X12_theft : Cond.instanceMethod yX12_theft ∈ TB ∧ Cond.selects yX12_theft.cls yX12_theft yX12_theft ∈ TB ∧ Cond.initialized yX12_theft.cls ∈ TB ∧ Cond.code yX12_theft cX12_theft 6 (some .int) ∈ TB ∧ (yX12_theft.cls ≠ "java/lang/invoke/MethodHandle" ∧ yX12_theft.cls ≠ "java/lang/invoke/VarHandle" ∧ (parseMethodDescriptor yX12_theft.desc).map (fun d => d.parameters.length) = some 4) ∧ 6 ≤ 21 := ⟨tbm 1986 (by decide +kernel) (by decide +kernel), tbm 1987 (by decide +kernel) (by decide +kernel), tbm 146 (by decide +kernel) (by decide +kernel), tbm 1988 (by decide +kernel) (by decide +kernel), by decide +kernel, by decide⟩
theorem wi_RL_68 : Iv RL 68 yX12_theft cX12_theft 6 (some .int) 4 := ⟨tbm 1985 (by decide +kernel) (by decide +kernel), wm_X12_theft⟩
theorem wm_X11_waits : Cond.instanceMethod yX11_waits ∈ TB ∧ Cond.selects yX11_waits.cls yX11_waits yX11_waits ∈ TB ∧ Cond.initialized yX11_waits.cls ∈ TB ∧ Cond.code yX11_waits cX11_waits 1 (some .int) ∈ TB ∧ (yX11_waits.cls ≠ "java/lang/invoke/MethodHandle" ∧ yX11_waits.cls ≠ "java/lang/invoke/VarHandle" ∧ (parseMethodDescriptor yX11_waits.desc).map (fun d => d.parameters.length) = some 0) ∧ 1 ≤ 21 := ⟨tbm 1139 (by decide +kernel) (by decide +kernel), tbm 1140 (by decide +kernel) (by decide +kernel), tbm 134 (by decide +kernel) (by decide +kernel), tbm 1141 (by decide +kernel) (by decide +kernel), by decide +kernel, by decide⟩
theorem wi_RL_69 : Iv RL 69 yX11_waits cX11_waits 1 (some .int) 0 := ⟨tbm 1138 (by decide +kernel) (by decide +kernel), wm_X11_waits⟩
theorem wm_X12_waits : Cond.instanceMethod yX12_waits ∈ TB ∧ Cond.selects yX12_waits.cls yX12_waits yX12_waits ∈ TB ∧ Cond.initialized yX12_waits.cls ∈ TB ∧ Cond.code yX12_waits cX12_waits 1 (some .int) ∈ TB ∧ (yX12_waits.cls ≠ "java/lang/invoke/MethodHandle" ∧ yX12_waits.cls ≠ "java/lang/invoke/VarHandle" ∧ (parseMethodDescriptor yX12_waits.desc).map (fun d => d.parameters.length) = some 0) ∧ 1 ≤ 21 := ⟨tbm 2006 (by decide +kernel) (by decide +kernel), tbm 2007 (by decide +kernel) (by decide +kernel), tbm 146 (by decide +kernel) (by decide +kernel), tbm 2008 (by decide +kernel) (by decide +kernel), by decide +kernel, by decide⟩
theorem wi_RL_72 : Iv RL 72 yX12_waits cX12_waits 1 (some .int) 0 := ⟨tbm 2005 (by decide +kernel) (by decide +kernel), wm_X12_waits⟩
theorem wm_X11_gift : Cond.instanceMethod yX11_gift ∈ TB ∧ Cond.selects yX11_gift.cls yX11_gift yX11_gift ∈ TB ∧ Cond.initialized yX11_gift.cls ∈ TB ∧ Cond.code yX11_gift cX11_gift 6 (some .boolean) ∈ TB ∧ (yX11_gift.cls ≠ "java/lang/invoke/MethodHandle" ∧ yX11_gift.cls ≠ "java/lang/invoke/VarHandle" ∧ (parseMethodDescriptor yX11_gift.desc).map (fun d => d.parameters.length) = some 3) ∧ 6 ≤ 21 := ⟨tbm 1143 (by decide +kernel) (by decide +kernel), tbm 1144 (by decide +kernel) (by decide +kernel), tbm 134 (by decide +kernel) (by decide +kernel), tbm 1145 (by decide +kernel) (by decide +kernel), by decide +kernel, by decide⟩
theorem wi_RL_73 : Iv RL 73 yX11_gift cX11_gift 6 (some .boolean) 3 := ⟨tbm 1142 (by decide +kernel) (by decide +kernel), wm_X11_gift⟩
theorem wm_X12_gift : Cond.instanceMethod yX12_gift ∈ TB ∧ Cond.selects yX12_gift.cls yX12_gift yX12_gift ∈ TB ∧ Cond.initialized yX12_gift.cls ∈ TB ∧ Cond.code yX12_gift cX12_gift 4 (some .boolean) ∈ TB ∧ (yX12_gift.cls ≠ "java/lang/invoke/MethodHandle" ∧ yX12_gift.cls ≠ "java/lang/invoke/VarHandle" ∧ (parseMethodDescriptor yX12_gift.desc).map (fun d => d.parameters.length) = some 3) ∧ 4 ≤ 21 := ⟨tbm 2010 (by decide +kernel) (by decide +kernel), tbm 2011 (by decide +kernel) (by decide +kernel), tbm 146 (by decide +kernel) (by decide +kernel), tbm 2012 (by decide +kernel) (by decide +kernel), by decide +kernel, by decide⟩
theorem wi_RL_77 : Iv RL 77 yX12_gift cX12_gift 4 (some .boolean) 3 := ⟨tbm 2009 (by decide +kernel) (by decide +kernel), wm_X12_gift⟩
theorem wm_X11_undo : Cond.instanceMethod yX11_undo ∈ TB ∧ Cond.selects yX11_undo.cls yX11_undo yX11_undo ∈ TB ∧ Cond.initialized yX11_undo.cls ∈ TB ∧ Cond.code yX11_undo cX11_undo 1 (some .boolean) ∈ TB ∧ (yX11_undo.cls ≠ "java/lang/invoke/MethodHandle" ∧ yX11_undo.cls ≠ "java/lang/invoke/VarHandle" ∧ (parseMethodDescriptor yX11_undo.desc).map (fun d => d.parameters.length) = some 0) ∧ 1 ≤ 21 := ⟨tbm 1147 (by decide +kernel) (by decide +kernel), tbm 1148 (by decide +kernel) (by decide +kernel), tbm 134 (by decide +kernel) (by decide +kernel), tbm 1149 (by decide +kernel) (by decide +kernel), by decide +kernel, by decide⟩
theorem wi_RL_78 : Iv RL 78 yX11_undo cX11_undo 1 (some .boolean) 0 := ⟨tbm 1146 (by decide +kernel) (by decide +kernel), wm_X11_undo⟩
theorem wm_X12_undo : Cond.instanceMethod yX12_undo ∈ TB ∧ Cond.selects yX12_undo.cls yX12_undo yX12_undo ∈ TB ∧ Cond.initialized yX12_undo.cls ∈ TB ∧ Cond.code yX12_undo cX12_undo 1 (some .boolean) ∈ TB ∧ (yX12_undo.cls ≠ "java/lang/invoke/MethodHandle" ∧ yX12_undo.cls ≠ "java/lang/invoke/VarHandle" ∧ (parseMethodDescriptor yX12_undo.desc).map (fun d => d.parameters.length) = some 0) ∧ 1 ≤ 21 := ⟨tbm 2014 (by decide +kernel) (by decide +kernel), tbm 2015 (by decide +kernel) (by decide +kernel), tbm 146 (by decide +kernel) (by decide +kernel), tbm 2016 (by decide +kernel) (by decide +kernel), by decide +kernel, by decide⟩
theorem wi_RL_82 : Iv RL 82 yX12_undo cX12_undo 1 (some .boolean) 0 := ⟨tbm 2013 (by decide +kernel) (by decide +kernel), wm_X12_undo⟩
theorem wm_X11_redo : Cond.instanceMethod yX11_redo ∈ TB ∧ Cond.selects yX11_redo.cls yX11_redo yX11_redo ∈ TB ∧ Cond.initialized yX11_redo.cls ∈ TB ∧ Cond.code yX11_redo cX11_redo 1 (some .boolean) ∈ TB ∧ (yX11_redo.cls ≠ "java/lang/invoke/MethodHandle" ∧ yX11_redo.cls ≠ "java/lang/invoke/VarHandle" ∧ (parseMethodDescriptor yX11_redo.desc).map (fun d => d.parameters.length) = some 0) ∧ 1 ≤ 21 := ⟨tbm 1155 (by decide +kernel) (by decide +kernel), tbm 1156 (by decide +kernel) (by decide +kernel), tbm 134 (by decide +kernel) (by decide +kernel), tbm 1157 (by decide +kernel) (by decide +kernel), by decide +kernel, by decide⟩
theorem wi_RL_83 : Iv RL 83 yX11_redo cX11_redo 1 (some .boolean) 0 := ⟨tbm 1154 (by decide +kernel) (by decide +kernel), wm_X11_redo⟩
theorem wm_X12_redo : Cond.instanceMethod yX12_redo ∈ TB ∧ Cond.selects yX12_redo.cls yX12_redo yX12_redo ∈ TB ∧ Cond.initialized yX12_redo.cls ∈ TB ∧ Cond.code yX12_redo cX12_redo 1 (some .boolean) ∈ TB ∧ (yX12_redo.cls ≠ "java/lang/invoke/MethodHandle" ∧ yX12_redo.cls ≠ "java/lang/invoke/VarHandle" ∧ (parseMethodDescriptor yX12_redo.desc).map (fun d => d.parameters.length) = some 0) ∧ 1 ≤ 21 := ⟨tbm 2022 (by decide +kernel) (by decide +kernel), tbm 2023 (by decide +kernel) (by decide +kernel), tbm 146 (by decide +kernel) (by decide +kernel), tbm 2024 (by decide +kernel) (by decide +kernel), by decide +kernel, by decide⟩
theorem wi_RL_86 : Iv RL 86 yX12_redo cX12_redo 1 (some .boolean) 0 := ⟨tbm 2021 (by decide +kernel) (by decide +kernel), wm_X12_redo⟩
theorem wm_X11_swaps : Cond.instanceMethod yX11_swaps ∈ TB ∧ Cond.selects yX11_swaps.cls yX11_swaps yX11_swaps ∈ TB ∧ Cond.initialized yX11_swaps.cls ∈ TB ∧ Cond.code yX11_swaps cX11_swaps 2 (some .int) ∈ TB ∧ (yX11_swaps.cls ≠ "java/lang/invoke/MethodHandle" ∧ yX11_swaps.cls ≠ "java/lang/invoke/VarHandle" ∧ (parseMethodDescriptor yX11_swaps.desc).map (fun d => d.parameters.length) = some 1) ∧ 2 ≤ 21 := ⟨tbm 1159 (by decide +kernel) (by decide +kernel), tbm 1160 (by decide +kernel) (by decide +kernel), tbm 134 (by decide +kernel) (by decide +kernel), tbm 1161 (by decide +kernel) (by decide +kernel), by decide +kernel, by decide⟩
theorem wi_RL_87 : Iv RL 87 yX11_swaps cX11_swaps 2 (some .int) 1 := ⟨tbm 1158 (by decide +kernel) (by decide +kernel), wm_X11_swaps⟩
theorem wm_X12_swaps : Cond.instanceMethod yX12_swaps ∈ TB ∧ Cond.selects yX12_swaps.cls yX12_swaps yX12_swaps ∈ TB ∧ Cond.initialized yX12_swaps.cls ∈ TB ∧ Cond.code yX12_swaps cX12_swaps 4 (some .int) ∈ TB ∧ (yX12_swaps.cls ≠ "java/lang/invoke/MethodHandle" ∧ yX12_swaps.cls ≠ "java/lang/invoke/VarHandle" ∧ (parseMethodDescriptor yX12_swaps.desc).map (fun d => d.parameters.length) = some 1) ∧ 4 ≤ 21 := ⟨tbm 2026 (by decide +kernel) (by decide +kernel), tbm 2027 (by decide +kernel) (by decide +kernel), tbm 146 (by decide +kernel) (by decide +kernel), tbm 2028 (by decide +kernel) (by decide +kernel), by decide +kernel, by decide⟩
theorem wi_RL_90 : Iv RL 90 yX12_swaps cX12_swaps 4 (some .int) 1 := ⟨tbm 2025 (by decide +kernel) (by decide +kernel), wm_X12_swaps⟩
theorem wm_X11_best : Cond.instanceMethod yX11_best ∈ TB ∧ Cond.selects yX11_best.cls yX11_best yX11_best ∈ TB ∧ Cond.initialized yX11_best.cls ∈ TB ∧ Cond.code yX11_best cX11_best 3 (some .int) ∈ TB ∧ (yX11_best.cls ≠ "java/lang/invoke/MethodHandle" ∧ yX11_best.cls ≠ "java/lang/invoke/VarHandle" ∧ (parseMethodDescriptor yX11_best.desc).map (fun d => d.parameters.length) = some 1) ∧ 3 ≤ 21 := ⟨tbm 1191 (by decide +kernel) (by decide +kernel), tbm 1192 (by decide +kernel) (by decide +kernel), tbm 134 (by decide +kernel) (by decide +kernel), tbm 1193 (by decide +kernel) (by decide +kernel), by decide +kernel, by decide⟩
theorem wi_RL_91 : Iv RL 91 yX11_best cX11_best 3 (some .int) 1 := ⟨tbm 1190 (by decide +kernel) (by decide +kernel), wm_X11_best⟩
theorem wm_X12_best : Cond.instanceMethod yX12_best ∈ TB ∧ Cond.selects yX12_best.cls yX12_best yX12_best ∈ TB ∧ Cond.initialized yX12_best.cls ∈ TB ∧ Cond.code yX12_best cX12_best 3 (some .int) ∈ TB ∧ (yX12_best.cls ≠ "java/lang/invoke/MethodHandle" ∧ yX12_best.cls ≠ "java/lang/invoke/VarHandle" ∧ (parseMethodDescriptor yX12_best.desc).map (fun d => d.parameters.length) = some 1) ∧ 3 ≤ 21 := ⟨tbm 2038 (by decide +kernel) (by decide +kernel), tbm 2039 (by decide +kernel) (by decide +kernel), tbm 146 (by decide +kernel) (by decide +kernel), tbm 2040 (by decide +kernel) (by decide +kernel), by decide +kernel, by decide⟩
theorem wi_RL_94 : Iv RL 94 yX12_best cX12_best 3 (some .int) 1 := ⟨tbm 2037 (by decide +kernel) (by decide +kernel), wm_X12_best⟩
theorem wm_X11_tour : Cond.instanceMethod yX11_tour ∈ TB ∧ Cond.selects yX11_tour.cls yX11_tour yX11_tour ∈ TB ∧ Cond.initialized yX11_tour.cls ∈ TB ∧ Cond.code yX11_tour cX11_tour 4 (some .int) ∈ TB ∧ (yX11_tour.cls ≠ "java/lang/invoke/MethodHandle" ∧ yX11_tour.cls ≠ "java/lang/invoke/VarHandle" ∧ (parseMethodDescriptor yX11_tour.desc).map (fun d => d.parameters.length) = some 2) ∧ 4 ≤ 21 := ⟨tbm 1204 (by decide +kernel) (by decide +kernel), tbm 1205 (by decide +kernel) (by decide +kernel), tbm 134 (by decide +kernel) (by decide +kernel), tbm 1206 (by decide +kernel) (by decide +kernel), by decide +kernel, by decide⟩
theorem wi_RL_95 : Iv RL 95 yX11_tour cX11_tour 4 (some .int) 2 := ⟨tbm 1203 (by decide +kernel) (by decide +kernel), wm_X11_tour⟩
theorem wm_X12_tour : Cond.instanceMethod yX12_tour ∈ TB ∧ Cond.selects yX12_tour.cls yX12_tour yX12_tour ∈ TB ∧ Cond.initialized yX12_tour.cls ∈ TB ∧ Cond.code yX12_tour cX12_tour 6 (some .int) ∈ TB ∧ (yX12_tour.cls ≠ "java/lang/invoke/MethodHandle" ∧ yX12_tour.cls ≠ "java/lang/invoke/VarHandle" ∧ (parseMethodDescriptor yX12_tour.desc).map (fun d => d.parameters.length) = some 2) ∧ 6 ≤ 21 := ⟨tbm 2059 (by decide +kernel) (by decide +kernel), tbm 2060 (by decide +kernel) (by decide +kernel), tbm 146 (by decide +kernel) (by decide +kernel), tbm 2061 (by decide +kernel) (by decide +kernel), by decide +kernel, by decide⟩
theorem wi_RL_98 : Iv RL 98 yX12_tour cX12_tour 6 (some .int) 2 := ⟨tbm 2058 (by decide +kernel) (by decide +kernel), wm_X12_tour⟩
theorem wm_X11_drift : Cond.instanceMethod yX11_drift ∈ TB ∧ Cond.selects yX11_drift.cls yX11_drift yX11_drift ∈ TB ∧ Cond.initialized yX11_drift.cls ∈ TB ∧ Cond.code yX11_drift cX11_drift 4 (some .int) ∈ TB ∧ (yX11_drift.cls ≠ "java/lang/invoke/MethodHandle" ∧ yX11_drift.cls ≠ "java/lang/invoke/VarHandle" ∧ (parseMethodDescriptor yX11_drift.desc).map (fun d => d.parameters.length) = some 2) ∧ 4 ≤ 21 := ⟨tbm 1250 (by decide +kernel) (by decide +kernel), tbm 1251 (by decide +kernel) (by decide +kernel), tbm 134 (by decide +kernel) (by decide +kernel), tbm 1252 (by decide +kernel) (by decide +kernel), by decide +kernel, by decide⟩
theorem wi_RL_99 : Iv RL 99 yX11_drift cX11_drift 4 (some .int) 2 := ⟨tbm 1249 (by decide +kernel) (by decide +kernel), wm_X11_drift⟩
theorem wm_X12_drift : Cond.instanceMethod yX12_drift ∈ TB ∧ Cond.selects yX12_drift.cls yX12_drift yX12_drift ∈ TB ∧ Cond.initialized yX12_drift.cls ∈ TB ∧ Cond.code yX12_drift cX12_drift 3 (some .int) ∈ TB ∧ (yX12_drift.cls ≠ "java/lang/invoke/MethodHandle" ∧ yX12_drift.cls ≠ "java/lang/invoke/VarHandle" ∧ (parseMethodDescriptor yX12_drift.desc).map (fun d => d.parameters.length) = some 2) ∧ 3 ≤ 21 := ⟨tbm 2087 (by decide +kernel) (by decide +kernel), tbm 2088 (by decide +kernel) (by decide +kernel), tbm 146 (by decide +kernel) (by decide +kernel), tbm 2089 (by decide +kernel) (by decide +kernel), by decide +kernel, by decide⟩
theorem wi_RL_102 : Iv RL 102 yX12_drift cX12_drift 3 (some .int) 2 := ⟨tbm 2086 (by decide +kernel) (by decide +kernel), wm_X12_drift⟩
theorem wm_X11_sums : Cond.instanceMethod yX11_sums ∈ TB ∧ Cond.selects yX11_sums.cls yX11_sums yX11_sums ∈ TB ∧ Cond.initialized yX11_sums.cls ∈ TB ∧ Cond.code yX11_sums cX11_sums 5 (some .int) ∈ TB ∧ (yX11_sums.cls ≠ "java/lang/invoke/MethodHandle" ∧ yX11_sums.cls ≠ "java/lang/invoke/VarHandle" ∧ (parseMethodDescriptor yX11_sums.desc).map (fun d => d.parameters.length) = some 3) ∧ 5 ≤ 21 := ⟨tbm 1263 (by decide +kernel) (by decide +kernel), tbm 1264 (by decide +kernel) (by decide +kernel), tbm 134 (by decide +kernel) (by decide +kernel), tbm 1265 (by decide +kernel) (by decide +kernel), by decide +kernel, by decide⟩
theorem wi_RL_103 : Iv RL 103 yX11_sums cX11_sums 5 (some .int) 3 := ⟨tbm 1262 (by decide +kernel) (by decide +kernel), wm_X11_sums⟩
theorem wm_X12_sums : Cond.instanceMethod yX12_sums ∈ TB ∧ Cond.selects yX12_sums.cls yX12_sums yX12_sums ∈ TB ∧ Cond.initialized yX12_sums.cls ∈ TB ∧ Cond.code yX12_sums cX12_sums 4 (some .int) ∈ TB ∧ (yX12_sums.cls ≠ "java/lang/invoke/MethodHandle" ∧ yX12_sums.cls ≠ "java/lang/invoke/VarHandle" ∧ (parseMethodDescriptor yX12_sums.desc).map (fun d => d.parameters.length) = some 3) ∧ 4 ≤ 21 := ⟨tbm 2099 (by decide +kernel) (by decide +kernel), tbm 2100 (by decide +kernel) (by decide +kernel), tbm 146 (by decide +kernel) (by decide +kernel), tbm 2101 (by decide +kernel) (by decide +kernel), by decide +kernel, by decide⟩
theorem wi_RL_107 : Iv RL 107 yX12_sums cX12_sums 4 (some .int) 3 := ⟨tbm 2098 (by decide +kernel) (by decide +kernel), wm_X12_sums⟩
theorem wm_X11_rests : Cond.instanceMethod yX11_rests ∈ TB ∧ Cond.selects yX11_rests.cls yX11_rests yX11_rests ∈ TB ∧ Cond.initialized yX11_rests.cls ∈ TB ∧ Cond.code yX11_rests cX11_rests 1 (some .int) ∈ TB ∧ (yX11_rests.cls ≠ "java/lang/invoke/MethodHandle" ∧ yX11_rests.cls ≠ "java/lang/invoke/VarHandle" ∧ (parseMethodDescriptor yX11_rests.desc).map (fun d => d.parameters.length) = some 0) ∧ 1 ≤ 21 := ⟨tbm 1267 (by decide +kernel) (by decide +kernel), tbm 1268 (by decide +kernel) (by decide +kernel), tbm 134 (by decide +kernel) (by decide +kernel), tbm 1269 (by decide +kernel) (by decide +kernel), by decide +kernel, by decide⟩
theorem wi_RL_108 : Iv RL 108 yX11_rests cX11_rests 1 (some .int) 0 := ⟨tbm 1266 (by decide +kernel) (by decide +kernel), wm_X11_rests⟩
theorem wm_X12_rests : Cond.instanceMethod yX12_rests ∈ TB ∧ Cond.selects yX12_rests.cls yX12_rests yX12_rests ∈ TB ∧ Cond.initialized yX12_rests.cls ∈ TB ∧ Cond.code yX12_rests cX12_rests 2 (some .int) ∈ TB ∧ (yX12_rests.cls ≠ "java/lang/invoke/MethodHandle" ∧ yX12_rests.cls ≠ "java/lang/invoke/VarHandle" ∧ (parseMethodDescriptor yX12_rests.desc).map (fun d => d.parameters.length) = some 0) ∧ 2 ≤ 21 := ⟨tbm 2103 (by decide +kernel) (by decide +kernel), tbm 2104 (by decide +kernel) (by decide +kernel), tbm 146 (by decide +kernel) (by decide +kernel), tbm 2105 (by decide +kernel) (by decide +kernel), by decide +kernel, by decide⟩
theorem wi_RL_111 : Iv RL 111 yX12_rests cX12_rests 2 (some .int) 0 := ⟨tbm 2102 (by decide +kernel) (by decide +kernel), wm_X12_rests⟩
theorem wm_X11_lie : Cond.instanceMethod yX11_lie ∈ TB ∧ Cond.selects yX11_lie.cls yX11_lie yX11_lie ∈ TB ∧ Cond.initialized yX11_lie.cls ∈ TB ∧ Cond.code yX11_lie cX11_lie 4 (some .int) ∈ TB ∧ (yX11_lie.cls ≠ "java/lang/invoke/MethodHandle" ∧ yX11_lie.cls ≠ "java/lang/invoke/VarHandle" ∧ (parseMethodDescriptor yX11_lie.desc).map (fun d => d.parameters.length) = some 3) ∧ 4 ≤ 21 := ⟨tbm 1271 (by decide +kernel) (by decide +kernel), tbm 1272 (by decide +kernel) (by decide +kernel), tbm 134 (by decide +kernel) (by decide +kernel), tbm 1273 (by decide +kernel) (by decide +kernel), by decide +kernel, by decide⟩
theorem wi_RL_112 : Iv RL 112 yX11_lie cX11_lie 4 (some .int) 3 := ⟨tbm 1270 (by decide +kernel) (by decide +kernel), wm_X11_lie⟩
theorem wm_X12_lie : Cond.instanceMethod yX12_lie ∈ TB ∧ Cond.selects yX12_lie.cls yX12_lie yX12_lie ∈ TB ∧ Cond.initialized yX12_lie.cls ∈ TB ∧ Cond.code yX12_lie cX12_lie 10 (some .int) ∈ TB ∧ (yX12_lie.cls ≠ "java/lang/invoke/MethodHandle" ∧ yX12_lie.cls ≠ "java/lang/invoke/VarHandle" ∧ (parseMethodDescriptor yX12_lie.desc).map (fun d => d.parameters.length) = some 3) ∧ 10 ≤ 21 := ⟨tbm 2107 (by decide +kernel) (by decide +kernel), tbm 2108 (by decide +kernel) (by decide +kernel), tbm 146 (by decide +kernel) (by decide +kernel), tbm 2109 (by decide +kernel) (by decide +kernel), by decide +kernel, by decide⟩
theorem wi_RL_115 : Iv RL 115 yX12_lie cX12_lie 10 (some .int) 3 := ⟨tbm 2106 (by decide +kernel) (by decide +kernel), wm_X12_lie⟩
theorem wm_X11_unbettered : Cond.instanceMethod yX11_unbettered ∈ TB ∧ Cond.selects yX11_unbettered.cls yX11_unbettered yX11_unbettered ∈ TB ∧ Cond.initialized yX11_unbettered.cls ∈ TB ∧ Cond.code yX11_unbettered cX11_unbettered 4 (some .int) ∈ TB ∧ (yX11_unbettered.cls ≠ "java/lang/invoke/MethodHandle" ∧ yX11_unbettered.cls ≠ "java/lang/invoke/VarHandle" ∧ (parseMethodDescriptor yX11_unbettered.desc).map (fun d => d.parameters.length) = some 1) ∧ 4 ≤ 21 := ⟨tbm 1290 (by decide +kernel) (by decide +kernel), tbm 1291 (by decide +kernel) (by decide +kernel), tbm 134 (by decide +kernel) (by decide +kernel), tbm 1292 (by decide +kernel) (by decide +kernel), by decide +kernel, by decide⟩
theorem wi_RL_116 : Iv RL 116 yX11_unbettered cX11_unbettered 4 (some .int) 1 := ⟨tbm 1289 (by decide +kernel) (by decide +kernel), wm_X11_unbettered⟩
theorem wm_X12_unbettered : Cond.instanceMethod yX12_unbettered ∈ TB ∧ Cond.selects yX12_unbettered.cls yX12_unbettered yX12_unbettered ∈ TB ∧ Cond.initialized yX12_unbettered.cls ∈ TB ∧ Cond.code yX12_unbettered cX12_unbettered 4 (some .int) ∈ TB ∧ (yX12_unbettered.cls ≠ "java/lang/invoke/MethodHandle" ∧ yX12_unbettered.cls ≠ "java/lang/invoke/VarHandle" ∧ (parseMethodDescriptor yX12_unbettered.desc).map (fun d => d.parameters.length) = some 1) ∧ 4 ≤ 21 := ⟨tbm 2115 (by decide +kernel) (by decide +kernel), tbm 2116 (by decide +kernel) (by decide +kernel), tbm 146 (by decide +kernel) (by decide +kernel), tbm 2117 (by decide +kernel) (by decide +kernel), by decide +kernel, by decide⟩
theorem wi_RL_119 : Iv RL 119 yX12_unbettered cX12_unbettered 4 (some .int) 1 := ⟨tbm 2114 (by decide +kernel) (by decide +kernel), wm_X12_unbettered⟩
theorem wm_X11_loopholes : Cond.instanceMethod yX11_loopholes ∈ TB ∧ Cond.selects yX11_loopholes.cls yX11_loopholes yX11_loopholes ∈ TB ∧ Cond.initialized yX11_loopholes.cls ∈ TB ∧ Cond.code yX11_loopholes cX11_loopholes 4 (some .int) ∈ TB ∧ (yX11_loopholes.cls ≠ "java/lang/invoke/MethodHandle" ∧ yX11_loopholes.cls ≠ "java/lang/invoke/VarHandle" ∧ (parseMethodDescriptor yX11_loopholes.desc).map (fun d => d.parameters.length) = some 0) ∧ 4 ≤ 21 := ⟨tbm 1300 (by decide +kernel) (by decide +kernel), tbm 1301 (by decide +kernel) (by decide +kernel), tbm 134 (by decide +kernel) (by decide +kernel), tbm 1302 (by decide +kernel) (by decide +kernel), by decide +kernel, by decide⟩
theorem wi_RL_120 : Iv RL 120 yX11_loopholes cX11_loopholes 4 (some .int) 0 := ⟨tbm 1299 (by decide +kernel) (by decide +kernel), wm_X11_loopholes⟩
theorem wm_X12_loopholes : Cond.instanceMethod yX12_loopholes ∈ TB ∧ Cond.selects yX12_loopholes.cls yX12_loopholes yX12_loopholes ∈ TB ∧ Cond.initialized yX12_loopholes.cls ∈ TB ∧ Cond.code yX12_loopholes cX12_loopholes 7 (some .int) ∈ TB ∧ (yX12_loopholes.cls ≠ "java/lang/invoke/MethodHandle" ∧ yX12_loopholes.cls ≠ "java/lang/invoke/VarHandle" ∧ (parseMethodDescriptor yX12_loopholes.desc).map (fun d => d.parameters.length) = some 0) ∧ 7 ≤ 21 := ⟨tbm 2123 (by decide +kernel) (by decide +kernel), tbm 2124 (by decide +kernel) (by decide +kernel), tbm 146 (by decide +kernel) (by decide +kernel), tbm 2125 (by decide +kernel) (by decide +kernel), by decide +kernel, by decide⟩
theorem wi_RL_123 : Iv RL 123 yX12_loopholes cX12_loopholes 7 (some .int) 0 := ⟨tbm 2122 (by decide +kernel) (by decide +kernel), wm_X12_loopholes⟩
theorem wm_X11_who : Cond.instanceMethod yX11_who ∈ TB ∧ Cond.selects yX11_who.cls yX11_who yX11_who ∈ TB ∧ Cond.initialized yX11_who.cls ∈ TB ∧ Cond.code yX11_who cX11_who 6 (some .int) ∈ TB ∧ (yX11_who.cls ≠ "java/lang/invoke/MethodHandle" ∧ yX11_who.cls ≠ "java/lang/invoke/VarHandle" ∧ (parseMethodDescriptor yX11_who.desc).map (fun d => d.parameters.length) = some 1) ∧ 6 ≤ 21 := ⟨tbm 1321 (by decide +kernel) (by decide +kernel), tbm 1322 (by decide +kernel) (by decide +kernel), tbm 134 (by decide +kernel) (by decide +kernel), tbm 1323 (by decide +kernel) (by decide +kernel), by decide +kernel, by decide⟩
theorem wi_RL_124 : Iv RL 124 yX11_who cX11_who 6 (some .int) 1 := ⟨tbm 1320 (by decide +kernel) (by decide +kernel), wm_X11_who⟩
theorem wm_X12_who : Cond.instanceMethod yX12_who ∈ TB ∧ Cond.selects yX12_who.cls yX12_who yX12_who ∈ TB ∧ Cond.initialized yX12_who.cls ∈ TB ∧ Cond.code yX12_who cX12_who 6 (some .int) ∈ TB ∧ (yX12_who.cls ≠ "java/lang/invoke/MethodHandle" ∧ yX12_who.cls ≠ "java/lang/invoke/VarHandle" ∧ (parseMethodDescriptor yX12_who.desc).map (fun d => d.parameters.length) = some 1) ∧ 6 ≤ 21 := ⟨tbm 2134 (by decide +kernel) (by decide +kernel), tbm 2135 (by decide +kernel) (by decide +kernel), tbm 146 (by decide +kernel) (by decide +kernel), tbm 2136 (by decide +kernel) (by decide +kernel), by decide +kernel, by decide⟩
theorem wi_RL_127 : Iv RL 127 yX12_who cX12_who 6 (some .int) 1 := ⟨tbm 2133 (by decide +kernel) (by decide +kernel), wm_X12_who⟩
theorem wm_X11_lies : Cond.instanceMethod yX11_lies ∈ TB ∧ Cond.selects yX11_lies.cls yX11_lies yX11_lies ∈ TB ∧ Cond.initialized yX11_lies.cls ∈ TB ∧ Cond.code yX11_lies cX11_lies 2 (some .int) ∈ TB ∧ (yX11_lies.cls ≠ "java/lang/invoke/MethodHandle" ∧ yX11_lies.cls ≠ "java/lang/invoke/VarHandle" ∧ (parseMethodDescriptor yX11_lies.desc).map (fun d => d.parameters.length) = some 1) ∧ 2 ≤ 21 := ⟨tbm 1337 (by decide +kernel) (by decide +kernel), tbm 1338 (by decide +kernel) (by decide +kernel), tbm 134 (by decide +kernel) (by decide +kernel), tbm 1339 (by decide +kernel) (by decide +kernel), by decide +kernel, by decide⟩
theorem wi_RL_128 : Iv RL 128 yX11_lies cX11_lies 2 (some .int) 1 := ⟨tbm 1336 (by decide +kernel) (by decide +kernel), wm_X11_lies⟩
theorem wm_X12_lies : Cond.instanceMethod yX12_lies ∈ TB ∧ Cond.selects yX12_lies.cls yX12_lies yX12_lies ∈ TB ∧ Cond.initialized yX12_lies.cls ∈ TB ∧ Cond.code yX12_lies cX12_lies 2 (some .int) ∈ TB ∧ (yX12_lies.cls ≠ "java/lang/invoke/MethodHandle" ∧ yX12_lies.cls ≠ "java/lang/invoke/VarHandle" ∧ (parseMethodDescriptor yX12_lies.desc).map (fun d => d.parameters.length) = some 1) ∧ 2 ≤ 21 := ⟨tbm 2153 (by decide +kernel) (by decide +kernel), tbm 2154 (by decide +kernel) (by decide +kernel), tbm 146 (by decide +kernel) (by decide +kernel), tbm 2155 (by decide +kernel) (by decide +kernel), by decide +kernel, by decide⟩
theorem wi_RL_131 : Iv RL 131 yX12_lies cX12_lies 2 (some .int) 1 := ⟨tbm 2152 (by decide +kernel) (by decide +kernel), wm_X12_lies⟩
theorem wm_X11_report : Cond.instanceMethod yX11_report ∈ TB ∧ Cond.selects yX11_report.cls yX11_report yX11_report ∈ TB ∧ Cond.initialized yX11_report.cls ∈ TB ∧ Cond.code yX11_report cX11_report 6 (some .int) ∈ TB ∧ (yX11_report.cls ≠ "java/lang/invoke/MethodHandle" ∧ yX11_report.cls ≠ "java/lang/invoke/VarHandle" ∧ (parseMethodDescriptor yX11_report.desc).map (fun d => d.parameters.length) = some 5) ∧ 6 ≤ 21 := ⟨tbm 1341 (by decide +kernel) (by decide +kernel), tbm 1342 (by decide +kernel) (by decide +kernel), tbm 134 (by decide +kernel) (by decide +kernel), tbm 1343 (by decide +kernel) (by decide +kernel), by decide +kernel, by decide⟩
theorem wi_RL_132 : Iv RL 132 yX11_report cX11_report 6 (some .int) 5 := ⟨tbm 1340 (by decide +kernel) (by decide +kernel), wm_X11_report⟩
theorem wm_X12_report : Cond.instanceMethod yX12_report ∈ TB ∧ Cond.selects yX12_report.cls yX12_report yX12_report ∈ TB ∧ Cond.initialized yX12_report.cls ∈ TB ∧ Cond.code yX12_report cX12_report 6 (some .int) ∈ TB ∧ (yX12_report.cls ≠ "java/lang/invoke/MethodHandle" ∧ yX12_report.cls ≠ "java/lang/invoke/VarHandle" ∧ (parseMethodDescriptor yX12_report.desc).map (fun d => d.parameters.length) = some 5) ∧ 6 ≤ 21 := ⟨tbm 2157 (by decide +kernel) (by decide +kernel), tbm 2158 (by decide +kernel) (by decide +kernel), tbm 146 (by decide +kernel) (by decide +kernel), tbm 2159 (by decide +kernel) (by decide +kernel), by decide +kernel, by decide⟩
theorem wi_RL_136 : Iv RL 136 yX12_report cX12_report 6 (some .int) 5 := ⟨tbm 2156 (by decide +kernel) (by decide +kernel), wm_X12_report⟩
theorem wm_X11_untell : Cond.instanceMethod yX11_untell ∈ TB ∧ Cond.selects yX11_untell.cls yX11_untell yX11_untell ∈ TB ∧ Cond.initialized yX11_untell.cls ∈ TB ∧ Cond.code yX11_untell cX11_untell 2 (some .boolean) ∈ TB ∧ (yX11_untell.cls ≠ "java/lang/invoke/MethodHandle" ∧ yX11_untell.cls ≠ "java/lang/invoke/VarHandle" ∧ (parseMethodDescriptor yX11_untell.desc).map (fun d => d.parameters.length) = some 1) ∧ 2 ≤ 21 := ⟨tbm 1349 (by decide +kernel) (by decide +kernel), tbm 1350 (by decide +kernel) (by decide +kernel), tbm 134 (by decide +kernel) (by decide +kernel), tbm 1351 (by decide +kernel) (by decide +kernel), by decide +kernel, by decide⟩
theorem wi_RL_137 : Iv RL 137 yX11_untell cX11_untell 2 (some .boolean) 1 := ⟨tbm 1348 (by decide +kernel) (by decide +kernel), wm_X11_untell⟩
theorem wm_X12_untell : Cond.instanceMethod yX12_untell ∈ TB ∧ Cond.selects yX12_untell.cls yX12_untell yX12_untell ∈ TB ∧ Cond.initialized yX12_untell.cls ∈ TB ∧ Cond.code yX12_untell cX12_untell 2 (some .boolean) ∈ TB ∧ (yX12_untell.cls ≠ "java/lang/invoke/MethodHandle" ∧ yX12_untell.cls ≠ "java/lang/invoke/VarHandle" ∧ (parseMethodDescriptor yX12_untell.desc).map (fun d => d.parameters.length) = some 1) ∧ 2 ≤ 21 := ⟨tbm 2161 (by decide +kernel) (by decide +kernel), tbm 2162 (by decide +kernel) (by decide +kernel), tbm 146 (by decide +kernel) (by decide +kernel), tbm 2163 (by decide +kernel) (by decide +kernel), by decide +kernel, by decide⟩
theorem wi_RL_141 : Iv RL 141 yX12_untell cX12_untell 2 (some .boolean) 1 := ⟨tbm 2160 (by decide +kernel) (by decide +kernel), wm_X12_untell⟩
theorem wm_X11_later : Cond.instanceMethod yX11_later ∈ TB ∧ Cond.selects yX11_later.cls yX11_later yX11_later ∈ TB ∧ Cond.initialized yX11_later.cls ∈ TB ∧ Cond.code yX11_later cX11_later 2 (some .int) ∈ TB ∧ (yX11_later.cls ≠ "java/lang/invoke/MethodHandle" ∧ yX11_later.cls ≠ "java/lang/invoke/VarHandle" ∧ (parseMethodDescriptor yX11_later.desc).map (fun d => d.parameters.length) = some 1) ∧ 2 ≤ 21 := ⟨tbm 1357 (by decide +kernel) (by decide +kernel), tbm 1358 (by decide +kernel) (by decide +kernel), tbm 134 (by decide +kernel) (by decide +kernel), tbm 1359 (by decide +kernel) (by decide +kernel), by decide +kernel, by decide⟩
theorem wi_RL_142 : Iv RL 142 yX11_later cX11_later 2 (some .int) 1 := ⟨tbm 1356 (by decide +kernel) (by decide +kernel), wm_X11_later⟩
theorem wm_X12_later : Cond.instanceMethod yX12_later ∈ TB ∧ Cond.selects yX12_later.cls yX12_later yX12_later ∈ TB ∧ Cond.initialized yX12_later.cls ∈ TB ∧ Cond.code yX12_later cX12_later 2 (some .int) ∈ TB ∧ (yX12_later.cls ≠ "java/lang/invoke/MethodHandle" ∧ yX12_later.cls ≠ "java/lang/invoke/VarHandle" ∧ (parseMethodDescriptor yX12_later.desc).map (fun d => d.parameters.length) = some 1) ∧ 2 ≤ 21 := ⟨tbm 2165 (by decide +kernel) (by decide +kernel), tbm 2166 (by decide +kernel) (by decide +kernel), tbm 146 (by decide +kernel) (by decide +kernel), tbm 2167 (by decide +kernel) (by decide +kernel), by decide +kernel, by decide⟩
theorem wi_RL_145 : Iv RL 145 yX12_later cX12_later 2 (some .int) 1 := ⟨tbm 2164 (by decide +kernel) (by decide +kernel), wm_X12_later⟩
theorem wm_X11_span : Cond.instanceMethod yX11_span ∈ TB ∧ Cond.selects yX11_span.cls yX11_span yX11_span ∈ TB ∧ Cond.initialized yX11_span.cls ∈ TB ∧ Cond.code yX11_span cX11_span 5 (some .int) ∈ TB ∧ (yX11_span.cls ≠ "java/lang/invoke/MethodHandle" ∧ yX11_span.cls ≠ "java/lang/invoke/VarHandle" ∧ (parseMethodDescriptor yX11_span.desc).map (fun d => d.parameters.length) = some 4) ∧ 5 ≤ 21 := ⟨tbm 1362 (by decide +kernel) (by decide +kernel), tbm 1363 (by decide +kernel) (by decide +kernel), tbm 134 (by decide +kernel) (by decide +kernel), tbm 1364 (by decide +kernel) (by decide +kernel), by decide +kernel, by decide⟩
theorem wi_RL_146 : Iv RL 146 yX11_span cX11_span 5 (some .int) 4 := ⟨tbm 1361 (by decide +kernel) (by decide +kernel), wm_X11_span⟩
theorem wm_X12_span : Cond.instanceMethod yX12_span ∈ TB ∧ Cond.selects yX12_span.cls yX12_span yX12_span ∈ TB ∧ Cond.initialized yX12_span.cls ∈ TB ∧ Cond.code yX12_span cX12_span 9 (some .int) ∈ TB ∧ (yX12_span.cls ≠ "java/lang/invoke/MethodHandle" ∧ yX12_span.cls ≠ "java/lang/invoke/VarHandle" ∧ (parseMethodDescriptor yX12_span.desc).map (fun d => d.parameters.length) = some 4) ∧ 9 ≤ 21 := ⟨tbm 2170 (by decide +kernel) (by decide +kernel), tbm 2171 (by decide +kernel) (by decide +kernel), tbm 146 (by decide +kernel) (by decide +kernel), tbm 2172 (by decide +kernel) (by decide +kernel), by decide +kernel, by decide⟩
theorem wi_RL_149 : Iv RL 149 yX12_span cX12_span 9 (some .int) 4 := ⟨tbm 2169 (by decide +kernel) (by decide +kernel), wm_X12_span⟩
theorem wm_X11_ask : Cond.instanceMethod yX11_ask ∈ TB ∧ Cond.selects yX11_ask.cls yX11_ask yX11_ask ∈ TB ∧ Cond.initialized yX11_ask.cls ∈ TB ∧ Cond.code yX11_ask cX11_ask 5 (some .int) ∈ TB ∧ (yX11_ask.cls ≠ "java/lang/invoke/MethodHandle" ∧ yX11_ask.cls ≠ "java/lang/invoke/VarHandle" ∧ (parseMethodDescriptor yX11_ask.desc).map (fun d => d.parameters.length) = some 4) ∧ 5 ≤ 21 := ⟨tbm 1381 (by decide +kernel) (by decide +kernel), tbm 1382 (by decide +kernel) (by decide +kernel), tbm 134 (by decide +kernel) (by decide +kernel), tbm 1383 (by decide +kernel) (by decide +kernel), by decide +kernel, by decide⟩
theorem wi_RL_150 : Iv RL 150 yX11_ask cX11_ask 5 (some .int) 4 := ⟨tbm 1380 (by decide +kernel) (by decide +kernel), wm_X11_ask⟩
theorem wm_X12_ask : Cond.instanceMethod yX12_ask ∈ TB ∧ Cond.selects yX12_ask.cls yX12_ask yX12_ask ∈ TB ∧ Cond.initialized yX12_ask.cls ∈ TB ∧ Cond.code yX12_ask cX12_ask 11 (some .int) ∈ TB ∧ (yX12_ask.cls ≠ "java/lang/invoke/MethodHandle" ∧ yX12_ask.cls ≠ "java/lang/invoke/VarHandle" ∧ (parseMethodDescriptor yX12_ask.desc).map (fun d => d.parameters.length) = some 4) ∧ 11 ≤ 21 := ⟨tbm 2182 (by decide +kernel) (by decide +kernel), tbm 2183 (by decide +kernel) (by decide +kernel), tbm 146 (by decide +kernel) (by decide +kernel), tbm 2184 (by decide +kernel) (by decide +kernel), by decide +kernel, by decide⟩
theorem wi_RL_153 : Iv RL 153 yX12_ask cX12_ask 11 (some .int) 4 := ⟨tbm 2181 (by decide +kernel) (by decide +kernel), wm_X12_ask⟩
theorem wm_X11_image : Cond.instanceMethod yX11_image ∈ TB ∧ Cond.selects yX11_image.cls yX11_image yX11_image ∈ TB ∧ Cond.initialized yX11_image.cls ∈ TB ∧ Cond.code yX11_image cX11_image 2 (some .int) ∈ TB ∧ (yX11_image.cls ≠ "java/lang/invoke/MethodHandle" ∧ yX11_image.cls ≠ "java/lang/invoke/VarHandle" ∧ (parseMethodDescriptor yX11_image.desc).map (fun d => d.parameters.length) = some 1) ∧ 2 ≤ 21 := ⟨tbm 1394 (by decide +kernel) (by decide +kernel), tbm 1395 (by decide +kernel) (by decide +kernel), tbm 134 (by decide +kernel) (by decide +kernel), tbm 1396 (by decide +kernel) (by decide +kernel), by decide +kernel, by decide⟩
theorem wi_RL_154 : Iv RL 154 yX11_image cX11_image 2 (some .int) 1 := ⟨tbm 1393 (by decide +kernel) (by decide +kernel), wm_X11_image⟩
theorem wm_X12_image : Cond.instanceMethod yX12_image ∈ TB ∧ Cond.selects yX12_image.cls yX12_image yX12_image ∈ TB ∧ Cond.initialized yX12_image.cls ∈ TB ∧ Cond.code yX12_image cX12_image 3 (some .int) ∈ TB ∧ (yX12_image.cls ≠ "java/lang/invoke/MethodHandle" ∧ yX12_image.cls ≠ "java/lang/invoke/VarHandle" ∧ (parseMethodDescriptor yX12_image.desc).map (fun d => d.parameters.length) = some 1) ∧ 3 ≤ 21 := ⟨tbm 2190 (by decide +kernel) (by decide +kernel), tbm 2191 (by decide +kernel) (by decide +kernel), tbm 146 (by decide +kernel) (by decide +kernel), tbm 2192 (by decide +kernel) (by decide +kernel), by decide +kernel, by decide⟩
theorem wi_RL_157 : Iv RL 157 yX12_image cX12_image 3 (some .int) 1 := ⟨tbm 2189 (by decide +kernel) (by decide +kernel), wm_X12_image⟩
theorem wm_X11_back : Cond.instanceMethod yX11_back ∈ TB ∧ Cond.selects yX11_back.cls yX11_back yX11_back ∈ TB ∧ Cond.initialized yX11_back.cls ∈ TB ∧ Cond.code yX11_back cX11_back 2 (some .int) ∈ TB ∧ (yX11_back.cls ≠ "java/lang/invoke/MethodHandle" ∧ yX11_back.cls ≠ "java/lang/invoke/VarHandle" ∧ (parseMethodDescriptor yX11_back.desc).map (fun d => d.parameters.length) = some 1) ∧ 2 ≤ 21 := ⟨tbm 1398 (by decide +kernel) (by decide +kernel), tbm 1399 (by decide +kernel) (by decide +kernel), tbm 134 (by decide +kernel) (by decide +kernel), tbm 1400 (by decide +kernel) (by decide +kernel), by decide +kernel, by decide⟩
theorem wi_RL_158 : Iv RL 158 yX11_back cX11_back 2 (some .int) 1 := ⟨tbm 1397 (by decide +kernel) (by decide +kernel), wm_X11_back⟩
theorem wm_X12_back : Cond.instanceMethod yX12_back ∈ TB ∧ Cond.selects yX12_back.cls yX12_back yX12_back ∈ TB ∧ Cond.initialized yX12_back.cls ∈ TB ∧ Cond.code yX12_back cX12_back 3 (some .int) ∈ TB ∧ (yX12_back.cls ≠ "java/lang/invoke/MethodHandle" ∧ yX12_back.cls ≠ "java/lang/invoke/VarHandle" ∧ (parseMethodDescriptor yX12_back.desc).map (fun d => d.parameters.length) = some 1) ∧ 3 ≤ 21 := ⟨tbm 2194 (by decide +kernel) (by decide +kernel), tbm 2195 (by decide +kernel) (by decide +kernel), tbm 146 (by decide +kernel) (by decide +kernel), tbm 2196 (by decide +kernel) (by decide +kernel), by decide +kernel, by decide⟩
theorem wi_RL_161 : Iv RL 161 yX12_back cX12_back 3 (some .int) 1 := ⟨tbm 2193 (by decide +kernel) (by decide +kernel), wm_X12_back⟩
theorem wm_X11_about : Cond.instanceMethod yX11_about ∈ TB ∧ Cond.selects yX11_about.cls yX11_about yX11_about ∈ TB ∧ Cond.initialized yX11_about.cls ∈ TB ∧ Cond.code yX11_about cX11_about 2 (some .int) ∈ TB ∧ (yX11_about.cls ≠ "java/lang/invoke/MethodHandle" ∧ yX11_about.cls ≠ "java/lang/invoke/VarHandle" ∧ (parseMethodDescriptor yX11_about.desc).map (fun d => d.parameters.length) = some 1) ∧ 2 ≤ 21 := ⟨tbm 1402 (by decide +kernel) (by decide +kernel), tbm 1403 (by decide +kernel) (by decide +kernel), tbm 134 (by decide +kernel) (by decide +kernel), tbm 1404 (by decide +kernel) (by decide +kernel), by decide +kernel, by decide⟩
theorem wi_RL_162 : Iv RL 162 yX11_about cX11_about 2 (some .int) 1 := ⟨tbm 1401 (by decide +kernel) (by decide +kernel), wm_X11_about⟩
theorem wm_X12_about : Cond.instanceMethod yX12_about ∈ TB ∧ Cond.selects yX12_about.cls yX12_about yX12_about ∈ TB ∧ Cond.initialized yX12_about.cls ∈ TB ∧ Cond.code yX12_about cX12_about 2 (some .int) ∈ TB ∧ (yX12_about.cls ≠ "java/lang/invoke/MethodHandle" ∧ yX12_about.cls ≠ "java/lang/invoke/VarHandle" ∧ (parseMethodDescriptor yX12_about.desc).map (fun d => d.parameters.length) = some 1) ∧ 2 ≤ 21 := ⟨tbm 2198 (by decide +kernel) (by decide +kernel), tbm 2199 (by decide +kernel) (by decide +kernel), tbm 146 (by decide +kernel) (by decide +kernel), tbm 2200 (by decide +kernel) (by decide +kernel), by decide +kernel, by decide⟩
theorem wi_RL_165 : Iv RL 165 yX12_about cX12_about 2 (some .int) 1 := ⟨tbm 2197 (by decide +kernel) (by decide +kernel), wm_X12_about⟩
set_option maxHeartbeats 4000000 in
theorem lc_0 {tw dr i : Nat} {r : Int32} {σ1 : St_} {σ2 : St_} (hL : L ≤ 3072) (hi : i + 5 < L) (hT : LY11 sh P 0 tw dr) (hM : LY12 sh P 233) (e1 : mX11_feed 0 tw dr (xs (i + 1)) (xs (i + 2)) (xs (i + 3)) (xs (i + 4)) (xs (i + 5)) σ = some (r, σ1)) (e2 : mX12_feed 233 (xs (i + 1)) (xs (i + 2)) (xs (i + 3)) (xs (i + 4)) (xs (i + 5)) σ1 = some (r, σ2)) (kk : Lj l D cA h0 ad b L xs sh P σ2 1399 [(0, .ref b), (1, .ref (h0 + 0)), (2, .ref (h0 + 233)), (3, .int (Int32.ofNat i))] []) : Lj l D cA h0 ad b L xs sh P σ 188 [(0, .ref b), (1, .ref (h0 + 0)), (2, .ref (h0 + 233)), (3, .int (Int32.ofNat i))] [] := by
  refine lj_aload_n (q := 189) dL_law_188 rfl (i := 1) rfl (pl := 1) rfl ?_
  refine lj_aload_n (q := 190) dL_law_189 rfl (i := 0) rfl (pl := 0) rfl ?_
  refine lj_iload_n (q := 191) dL_law_190 rfl (i := 3) rfl (pl := 3) rfl ?_
  refine lj_iconst (q := 192) (v := 1) dL_law_191 rfl (by decide) ?_
  refine lj_iadd (q := 193) dL_law_192 rfl ?_
  refine lj_sld (q := 194) (k := i + 1) (ofN_add i 1) (by omega) hL dL_law_193 rfl ?_
  refine lj_aload_n (q := 195) dL_law_194 rfl (i := 0) rfl (pl := 0) rfl ?_
  refine lj_iload_n (q := 196) dL_law_195 rfl (i := 3) rfl (pl := 3) rfl ?_
  refine lj_iconst (q := 197) (v := 2) dL_law_196 rfl (by decide) ?_
  refine lj_iadd (q := 198) dL_law_197 rfl ?_
  refine lj_sld (q := 199) (k := i + 2) (ofN_add i 2) (by omega) hL dL_law_198 rfl ?_
  refine lj_aload_n (q := 200) dL_law_199 rfl (i := 0) rfl (pl := 0) rfl ?_
  refine lj_iload_n (q := 201) dL_law_200 rfl (i := 3) rfl (pl := 3) rfl ?_
  refine lj_iconst (q := 202) (v := 3) dL_law_201 rfl (by decide) ?_
  refine lj_iadd (q := 203) dL_law_202 rfl ?_
  refine lj_sld (q := 204) (k := i + 3) (ofN_add i 3) (by omega) hL dL_law_203 rfl ?_
  refine lj_aload_n (q := 205) dL_law_204 rfl (i := 0) rfl (pl := 0) rfl ?_
  refine lj_iload_n (q := 206) dL_law_205 rfl (i := 3) rfl (pl := 3) rfl ?_
  refine lj_iconst (q := 207) (v := 4) dL_law_206 rfl (by decide) ?_
  refine lj_iadd (q := 208) dL_law_207 rfl ?_
  refine lj_sld (q := 209) (k := i + 4) (ofN_add i 4) (by omega) hL dL_law_208 rfl ?_
  refine lj_aload_n (q := 210) dL_law_209 rfl (i := 0) rfl (pl := 0) rfl ?_
  refine lj_iload_n (q := 211) dL_law_210 rfl (i := 3) rfl (pl := 3) rfl ?_
  refine lj_iconst (q := 212) (v := 5) dL_law_211 rfl (by decide) ?_
  refine lj_iadd (q := 213) dL_law_212 rfl ?_
  refine lj_sld (q := 214) (k := i + 5) (ofN_add i 5) (by omega) hL dL_law_213 rfl ?_
  refine lj_run (q := 217) (t := 0) (v := (r, σ1)) (As := [.int (xs (i + 1)), .int (xs (i + 2)), .int (xs (i + 3)), .int (xs (i + 4)), .int (xs (i + 5))]) (rest := []) wi_RL_13 (hT).s rfl (rX11_feed 0 tw dr (xs (i + 1)) (xs (i + 2)) (xs (i + 3)) (xs (i + 4)) (xs (i + 5)) hT) e1 rfl (by decide) (Nat.le_of_ble_eq_true rfl) dL_law_214 rfl ?_
  show Lj l D cA h0 ad b L xs sh P σ1 217 [(0, .ref b), (1, .ref (h0 + 0)), (2, .ref (h0 + 233)), (3, .int (Int32.ofNat i))] [.int r]
  refine lj_aload_n (q := 218) dL_law_217 rfl (i := 2) rfl (pl := 2) rfl ?_
  refine lj_aload_n (q := 219) dL_law_218 rfl (i := 0) rfl (pl := 0) rfl ?_
  refine lj_iload_n (q := 220) dL_law_219 rfl (i := 3) rfl (pl := 3) rfl ?_
  refine lj_iconst (q := 221) (v := 1) dL_law_220 rfl (by decide) ?_
  refine lj_iadd (q := 222) dL_law_221 rfl ?_
  refine lj_sld (q := 223) (k := i + 1) (ofN_add i 1) (by omega) hL dL_law_222 rfl ?_
  refine lj_aload_n (q := 224) dL_law_223 rfl (i := 0) rfl (pl := 0) rfl ?_
  refine lj_iload_n (q := 225) dL_law_224 rfl (i := 3) rfl (pl := 3) rfl ?_
  refine lj_iconst (q := 226) (v := 2) dL_law_225 rfl (by decide) ?_
  refine lj_iadd (q := 227) dL_law_226 rfl ?_
  refine lj_sld (q := 228) (k := i + 2) (ofN_add i 2) (by omega) hL dL_law_227 rfl ?_
  refine lj_aload_n (q := 229) dL_law_228 rfl (i := 0) rfl (pl := 0) rfl ?_
  refine lj_iload_n (q := 230) dL_law_229 rfl (i := 3) rfl (pl := 3) rfl ?_
  refine lj_iconst (q := 231) (v := 3) dL_law_230 rfl (by decide) ?_
  refine lj_iadd (q := 232) dL_law_231 rfl ?_
  refine lj_sld (q := 233) (k := i + 3) (ofN_add i 3) (by omega) hL dL_law_232 rfl ?_
  refine lj_aload_n (q := 234) dL_law_233 rfl (i := 0) rfl (pl := 0) rfl ?_
  refine lj_iload_n (q := 235) dL_law_234 rfl (i := 3) rfl (pl := 3) rfl ?_
  refine lj_iconst (q := 236) (v := 4) dL_law_235 rfl (by decide) ?_
  refine lj_iadd (q := 237) dL_law_236 rfl ?_
  refine lj_sld (q := 238) (k := i + 4) (ofN_add i 4) (by omega) hL dL_law_237 rfl ?_
  refine lj_aload_n (q := 239) dL_law_238 rfl (i := 0) rfl (pl := 0) rfl ?_
  refine lj_iload_n (q := 240) dL_law_239 rfl (i := 3) rfl (pl := 3) rfl ?_
  refine lj_iconst (q := 241) (v := 5) dL_law_240 rfl (by decide) ?_
  refine lj_iadd (q := 242) dL_law_241 rfl ?_
  refine lj_sld (q := 243) (k := i + 5) (ofN_add i 5) (by omega) hL dL_law_242 rfl ?_
  refine lj_run (q := 246) (t := 233) (v := (r, σ2)) (As := [.int (xs (i + 1)), .int (xs (i + 2)), .int (xs (i + 3)), .int (xs (i + 4)), .int (xs (i + 5))]) (rest := [.int r]) wi_RL_17 (hM).s rfl (rX12_feed 233 (xs (i + 1)) (xs (i + 2)) (xs (i + 3)) (xs (i + 4)) (xs (i + 5)) hM) e2 rfl (by decide) (Nat.le_of_ble_eq_true rfl) dL_law_243 rfl ?_
  show Lj l D cA h0 ad b L xs sh P σ2 246 [(0, .ref b), (1, .ref (h0 + 0)), (2, .ref (h0 + 233)), (3, .int (Int32.ofNat i))] [.int r, .int r]
  refine lj_icmp_eqY (tgt := 1399) rfl dL_law_246 (by decide) ?_
  exact kk

set_option maxHeartbeats 4000000 in
theorem lc_1 {tw dr i : Nat} {r : Int32} {σ1 : St_} {σ2 : St_} (hL : L ≤ 3072) (hi : i + 5 < L) (hT : LY11 sh P 0 tw dr) (hM : LY12 sh P 233) (e1 : mX11_end 0 tw dr (xs (i + 1)) σ = some (r, σ1)) (e2 : mX12_end 233 (xs (i + 1)) σ1 = some (r, σ2)) (kk : Lj l D cA h0 ad b L xs sh P σ2 1399 [(0, .ref b), (1, .ref (h0 + 0)), (2, .ref (h0 + 233)), (3, .int (Int32.ofNat i))] []) : Lj l D cA h0 ad b L xs sh P σ 251 [(0, .ref b), (1, .ref (h0 + 0)), (2, .ref (h0 + 233)), (3, .int (Int32.ofNat i))] [] := by
  refine lj_aload_n (q := 252) dL_law_251 rfl (i := 1) rfl (pl := 1) rfl ?_
  refine lj_aload_n (q := 253) dL_law_252 rfl (i := 0) rfl (pl := 0) rfl ?_
  refine lj_iload_n (q := 254) dL_law_253 rfl (i := 3) rfl (pl := 3) rfl ?_
  refine lj_iconst (q := 255) (v := 1) dL_law_254 rfl (by decide) ?_
  refine lj_iadd (q := 256) dL_law_255 rfl ?_
  refine lj_sld (q := 257) (k := i + 1) (ofN_add i 1) (by omega) hL dL_law_256 rfl ?_
  refine lj_run (q := 260) (t := 0) (v := (r, σ1)) (As := [.int (xs (i + 1))]) (rest := []) wi_RL_18 (hT).s rfl (rX11_end 0 tw dr (xs (i + 1)) hT) e1 rfl (by decide) (Nat.le_of_ble_eq_true rfl) dL_law_257 rfl ?_
  show Lj l D cA h0 ad b L xs sh P σ1 260 [(0, .ref b), (1, .ref (h0 + 0)), (2, .ref (h0 + 233)), (3, .int (Int32.ofNat i))] [.int r]
  refine lj_aload_n (q := 261) dL_law_260 rfl (i := 2) rfl (pl := 2) rfl ?_
  refine lj_aload_n (q := 262) dL_law_261 rfl (i := 0) rfl (pl := 0) rfl ?_
  refine lj_iload_n (q := 263) dL_law_262 rfl (i := 3) rfl (pl := 3) rfl ?_
  refine lj_iconst (q := 264) (v := 1) dL_law_263 rfl (by decide) ?_
  refine lj_iadd (q := 265) dL_law_264 rfl ?_
  refine lj_sld (q := 266) (k := i + 1) (ofN_add i 1) (by omega) hL dL_law_265 rfl ?_
  refine lj_run (q := 269) (t := 233) (v := (r, σ2)) (As := [.int (xs (i + 1))]) (rest := [.int r]) wi_RL_22 (hM).s rfl (rX12_end 233 (xs (i + 1)) hM) e2 rfl (by decide) (Nat.le_of_ble_eq_true rfl) dL_law_266 rfl ?_
  show Lj l D cA h0 ad b L xs sh P σ2 269 [(0, .ref b), (1, .ref (h0 + 0)), (2, .ref (h0 + 233)), (3, .int (Int32.ofNat i))] [.int r, .int r]
  refine lj_icmp_eqY (tgt := 1399) rfl dL_law_269 (by decide) ?_
  exact kk

set_option maxHeartbeats 4000000 in
theorem lc_2 {tw dr i : Nat} {r : Int32} {σ1 : St_} {σ2 : St_} {s1 : Bool} (hL : L ≤ 3072) (hi : i + 5 < L) (hT : LY11 sh P 0 tw dr) (hM : LY12 sh P 233) (hM2 : LY12 sh (cityP P 0 tw dr s1) 233) (e1 : mX11_city 0 tw dr σ = some (r, σ1, s1)) (e2 : mX12_city 233 σ1 = some (r, σ2)) (kk : Lj l D cA h0 ad b L xs sh (cityP P 0 tw dr s1) σ2 1399 [(0, .ref b), (1, .ref (h0 + 0)), (2, .ref (h0 + 233)), (3, .int (Int32.ofNat i))] []) : Lj l D cA h0 ad b L xs sh P σ 274 [(0, .ref b), (1, .ref (h0 + 0)), (2, .ref (h0 + 233)), (3, .int (Int32.ofNat i))] [] := by
  refine lj_aload_n (q := 275) dL_law_274 rfl (i := 1) rfl (pl := 1) rfl ?_
  refine lj_run (q := 278) (t := 0) (v := (r, σ1, s1)) (As := []) (rest := []) wi_RL_23 (hT).s rfl (rX11_city 0 tw dr  hT) e1 rfl (by decide) (Nat.le_of_ble_eq_true rfl) dL_law_275 rfl ?_
  show Lj l D cA h0 ad b L xs sh (cityP P 0 tw dr s1) σ1 278 [(0, .ref b), (1, .ref (h0 + 0)), (2, .ref (h0 + 233)), (3, .int (Int32.ofNat i))] [.int r]
  refine lj_aload_n (q := 279) dL_law_278 rfl (i := 2) rfl (pl := 2) rfl ?_
  refine lj_run (q := 282) (t := 233) (v := (r, σ2)) (As := []) (rest := [.int r]) wi_RL_27 (hM2).s rfl (rX12_city 233  hM2) e2 rfl (by decide) (Nat.le_of_ble_eq_true rfl) dL_law_279 rfl ?_
  show Lj l D cA h0 ad b L xs sh (cityP P 0 tw dr s1) σ2 282 [(0, .ref b), (1, .ref (h0 + 0)), (2, .ref (h0 + 233)), (3, .int (Int32.ofNat i))] [.int r, .int r]
  refine lj_icmp_eqY (tgt := 1399) rfl dL_law_282 (by decide) ?_
  exact kk

set_option maxHeartbeats 4000000 in
theorem lc_3 {tw dr i : Nat} {r : Int32} (hL : L ≤ 3072) (hi : i + 5 < L) (hT : LY11 sh P 0 tw dr) (hM : LY12 sh P 233) (e1 : mX11_fault 0 tw dr (xs (i + 1)) σ = some r) (e2 : mX12_fault 233 (xs (i + 1)) σ = some r) (kk : Lj l D cA h0 ad b L xs sh P σ 1399 [(0, .ref b), (1, .ref (h0 + 0)), (2, .ref (h0 + 233)), (3, .int (Int32.ofNat i))] []) : Lj l D cA h0 ad b L xs sh P σ 287 [(0, .ref b), (1, .ref (h0 + 0)), (2, .ref (h0 + 233)), (3, .int (Int32.ofNat i))] [] := by
  refine lj_aload_n (q := 288) dL_law_287 rfl (i := 1) rfl (pl := 1) rfl ?_
  refine lj_aload_n (q := 289) dL_law_288 rfl (i := 0) rfl (pl := 0) rfl ?_
  refine lj_iload_n (q := 290) dL_law_289 rfl (i := 3) rfl (pl := 3) rfl ?_
  refine lj_iconst (q := 291) (v := 1) dL_law_290 rfl (by decide) ?_
  refine lj_iadd (q := 292) dL_law_291 rfl ?_
  refine lj_sld (q := 293) (k := i + 1) (ofN_add i 1) (by omega) hL dL_law_292 rfl ?_
  refine lj_run (q := 296) (t := 0) (v := r) (As := [.int (xs (i + 1))]) (rest := []) wi_RL_28 (hT).s rfl (rX11_fault 0 tw dr (xs (i + 1)) hT) e1 rfl (by decide) (Nat.le_of_ble_eq_true rfl) dL_law_293 rfl ?_
  show Lj l D cA h0 ad b L xs sh P σ 296 [(0, .ref b), (1, .ref (h0 + 0)), (2, .ref (h0 + 233)), (3, .int (Int32.ofNat i))] [.int r]
  refine lj_aload_n (q := 297) dL_law_296 rfl (i := 2) rfl (pl := 2) rfl ?_
  refine lj_aload_n (q := 298) dL_law_297 rfl (i := 0) rfl (pl := 0) rfl ?_
  refine lj_iload_n (q := 299) dL_law_298 rfl (i := 3) rfl (pl := 3) rfl ?_
  refine lj_iconst (q := 300) (v := 1) dL_law_299 rfl (by decide) ?_
  refine lj_iadd (q := 301) dL_law_300 rfl ?_
  refine lj_sld (q := 302) (k := i + 1) (ofN_add i 1) (by omega) hL dL_law_301 rfl ?_
  refine lj_run (q := 305) (t := 233) (v := r) (As := [.int (xs (i + 1))]) (rest := [.int r]) wi_RL_31 (hM).s rfl (rX12_fault 233 (xs (i + 1)) hM) e2 rfl (by decide) (Nat.le_of_ble_eq_true rfl) dL_law_302 rfl ?_
  show Lj l D cA h0 ad b L xs sh P σ 305 [(0, .ref b), (1, .ref (h0 + 0)), (2, .ref (h0 + 233)), (3, .int (Int32.ofNat i))] [.int r, .int r]
  refine lj_icmp_eqY (tgt := 1399) rfl dL_law_305 (by decide) ?_
  exact kk

set_option maxHeartbeats 4000000 in
theorem lc_4 {tw dr i : Nat} {r : Int32} (hL : L ≤ 3072) (hi : i + 5 < L) (hT : LY11 sh P 0 tw dr) (hM : LY12 sh P 233) (e1 : mX11_thing 0 tw dr (xs (i + 1)) (xs (i + 2)) σ = some r) (e2 : mX12_thing 233 (xs (i + 1)) (xs (i + 2)) σ = some r) (kk : Lj l D cA h0 ad b L xs sh P σ 1399 [(0, .ref b), (1, .ref (h0 + 0)), (2, .ref (h0 + 233)), (3, .int (Int32.ofNat i))] []) : Lj l D cA h0 ad b L xs sh P σ 310 [(0, .ref b), (1, .ref (h0 + 0)), (2, .ref (h0 + 233)), (3, .int (Int32.ofNat i))] [] := by
  refine lj_aload_n (q := 311) dL_law_310 rfl (i := 1) rfl (pl := 1) rfl ?_
  refine lj_aload_n (q := 312) dL_law_311 rfl (i := 0) rfl (pl := 0) rfl ?_
  refine lj_iload_n (q := 313) dL_law_312 rfl (i := 3) rfl (pl := 3) rfl ?_
  refine lj_iconst (q := 314) (v := 1) dL_law_313 rfl (by decide) ?_
  refine lj_iadd (q := 315) dL_law_314 rfl ?_
  refine lj_sld (q := 316) (k := i + 1) (ofN_add i 1) (by omega) hL dL_law_315 rfl ?_
  refine lj_aload_n (q := 317) dL_law_316 rfl (i := 0) rfl (pl := 0) rfl ?_
  refine lj_iload_n (q := 318) dL_law_317 rfl (i := 3) rfl (pl := 3) rfl ?_
  refine lj_iconst (q := 319) (v := 2) dL_law_318 rfl (by decide) ?_
  refine lj_iadd (q := 320) dL_law_319 rfl ?_
  refine lj_sld (q := 321) (k := i + 2) (ofN_add i 2) (by omega) hL dL_law_320 rfl ?_
  refine lj_run (q := 324) (t := 0) (v := r) (As := [.int (xs (i + 1)), .int (xs (i + 2))]) (rest := []) wi_RL_32 (hT).s rfl (rX11_thing 0 tw dr (xs (i + 1)) (xs (i + 2)) hT) e1 rfl (by decide) (Nat.le_of_ble_eq_true rfl) dL_law_321 rfl ?_
  show Lj l D cA h0 ad b L xs sh P σ 324 [(0, .ref b), (1, .ref (h0 + 0)), (2, .ref (h0 + 233)), (3, .int (Int32.ofNat i))] [.int r]
  refine lj_aload_n (q := 325) dL_law_324 rfl (i := 2) rfl (pl := 2) rfl ?_
  refine lj_aload_n (q := 326) dL_law_325 rfl (i := 0) rfl (pl := 0) rfl ?_
  refine lj_iload_n (q := 327) dL_law_326 rfl (i := 3) rfl (pl := 3) rfl ?_
  refine lj_iconst (q := 328) (v := 1) dL_law_327 rfl (by decide) ?_
  refine lj_iadd (q := 329) dL_law_328 rfl ?_
  refine lj_sld (q := 330) (k := i + 1) (ofN_add i 1) (by omega) hL dL_law_329 rfl ?_
  refine lj_aload_n (q := 331) dL_law_330 rfl (i := 0) rfl (pl := 0) rfl ?_
  refine lj_iload_n (q := 332) dL_law_331 rfl (i := 3) rfl (pl := 3) rfl ?_
  refine lj_iconst (q := 333) (v := 2) dL_law_332 rfl (by decide) ?_
  refine lj_iadd (q := 334) dL_law_333 rfl ?_
  refine lj_sld (q := 335) (k := i + 2) (ofN_add i 2) (by omega) hL dL_law_334 rfl ?_
  refine lj_run (q := 338) (t := 233) (v := r) (As := [.int (xs (i + 1)), .int (xs (i + 2))]) (rest := [.int r]) wi_RL_36 (hM).s rfl (rX12_thing 233 (xs (i + 1)) (xs (i + 2)) hM) e2 rfl (by decide) (Nat.le_of_ble_eq_true rfl) dL_law_335 rfl ?_
  show Lj l D cA h0 ad b L xs sh P σ 338 [(0, .ref b), (1, .ref (h0 + 0)), (2, .ref (h0 + 233)), (3, .int (Int32.ofNat i))] [.int r, .int r]
  refine lj_icmp_eqY (tgt := 1399) rfl dL_law_338 (by decide) ?_
  exact kk

set_option maxHeartbeats 4000000 in
theorem lc_5f {tw dr i : Nat} {r : Int32} (hL : L ≤ 3072) (hi : i + 5 < L) (hv : xs (i + 3) = 0) (hT : LY11 sh P 0 tw dr) (hM : LY12 sh P 233) (e1 : mX11_worth 0 tw dr (xs (i + 1)) (xs (i + 2)) false σ = some r) (e2 : mX12_worth 233 (xs (i + 1)) (xs (i + 2)) false σ = some r) (kk : Lj l D cA h0 ad b L xs sh P σ 1399 [(0, .ref b), (1, .ref (h0 + 0)), (2, .ref (h0 + 233)), (3, .int (Int32.ofNat i))] []) : Lj l D cA h0 ad b L xs sh P σ 343 [(0, .ref b), (1, .ref (h0 + 0)), (2, .ref (h0 + 233)), (3, .int (Int32.ofNat i))] [] := by
  refine lj_aload_n (q := 344) dL_law_343 rfl (i := 1) rfl (pl := 1) rfl ?_
  refine lj_aload_n (q := 345) dL_law_344 rfl (i := 0) rfl (pl := 0) rfl ?_
  refine lj_iload_n (q := 346) dL_law_345 rfl (i := 3) rfl (pl := 3) rfl ?_
  refine lj_iconst (q := 347) (v := 1) dL_law_346 rfl (by decide) ?_
  refine lj_iadd (q := 348) dL_law_347 rfl ?_
  refine lj_sld (q := 349) (k := i + 1) (ofN_add i 1) (by omega) hL dL_law_348 rfl ?_
  refine lj_aload_n (q := 350) dL_law_349 rfl (i := 0) rfl (pl := 0) rfl ?_
  refine lj_iload_n (q := 351) dL_law_350 rfl (i := 3) rfl (pl := 3) rfl ?_
  refine lj_iconst (q := 352) (v := 2) dL_law_351 rfl (by decide) ?_
  refine lj_iadd (q := 353) dL_law_352 rfl ?_
  refine lj_sld (q := 354) (k := i + 2) (ofN_add i 2) (by omega) hL dL_law_353 rfl ?_
  refine lj_aload_n (q := 355) dL_law_354 rfl (i := 0) rfl (pl := 0) rfl ?_
  refine lj_iload_n (q := 356) dL_law_355 rfl (i := 3) rfl (pl := 3) rfl ?_
  refine lj_iconst (q := 357) (v := 3) dL_law_356 rfl (by decide) ?_
  refine lj_iadd (q := 358) dL_law_357 rfl ?_
  refine lj_sld (q := 359) (k := i + 3) (ofN_add i 3) (by omega) hL dL_law_358 rfl ?_
  refine lj_ifeqY (tgt := 366) hv dL_law_359 (by decide) ?_
  refine lj_iconst (q := 367) (v := 0) dL_law_366 rfl (by decide) ?_
  refine lj_run (q := 370) (t := 0) (v := r) (As := [.int (xs (i + 1)), .int (xs (i + 2)), .int 0]) (rest := []) wi_RL_37 (hT).s rfl (rX11_worth 0 tw dr (xs (i + 1)) (xs (i + 2)) false hT) e1 rfl (by decide) (Nat.le_of_ble_eq_true rfl) dL_law_367 rfl ?_
  show Lj l D cA h0 ad b L xs sh P σ 370 [(0, .ref b), (1, .ref (h0 + 0)), (2, .ref (h0 + 233)), (3, .int (Int32.ofNat i))] [.int r]
  refine lj_aload_n (q := 371) dL_law_370 rfl (i := 2) rfl (pl := 2) rfl ?_
  refine lj_aload_n (q := 372) dL_law_371 rfl (i := 0) rfl (pl := 0) rfl ?_
  refine lj_iload_n (q := 373) dL_law_372 rfl (i := 3) rfl (pl := 3) rfl ?_
  refine lj_iconst (q := 374) (v := 1) dL_law_373 rfl (by decide) ?_
  refine lj_iadd (q := 375) dL_law_374 rfl ?_
  refine lj_sld (q := 376) (k := i + 1) (ofN_add i 1) (by omega) hL dL_law_375 rfl ?_
  refine lj_aload_n (q := 377) dL_law_376 rfl (i := 0) rfl (pl := 0) rfl ?_
  refine lj_iload_n (q := 378) dL_law_377 rfl (i := 3) rfl (pl := 3) rfl ?_
  refine lj_iconst (q := 379) (v := 2) dL_law_378 rfl (by decide) ?_
  refine lj_iadd (q := 380) dL_law_379 rfl ?_
  refine lj_sld (q := 381) (k := i + 2) (ofN_add i 2) (by omega) hL dL_law_380 rfl ?_
  refine lj_aload_n (q := 382) dL_law_381 rfl (i := 0) rfl (pl := 0) rfl ?_
  refine lj_iload_n (q := 383) dL_law_382 rfl (i := 3) rfl (pl := 3) rfl ?_
  refine lj_iconst (q := 384) (v := 3) dL_law_383 rfl (by decide) ?_
  refine lj_iadd (q := 385) dL_law_384 rfl ?_
  refine lj_sld (q := 386) (k := i + 3) (ofN_add i 3) (by omega) hL dL_law_385 rfl ?_
  refine lj_ifeqY (tgt := 393) hv dL_law_386 (by decide) ?_
  refine lj_iconst (q := 394) (v := 0) dL_law_393 rfl (by decide) ?_
  refine lj_run (q := 397) (t := 233) (v := r) (As := [.int (xs (i + 1)), .int (xs (i + 2)), .int 0]) (rest := [.int r]) wi_RL_41 (hM).s rfl (rX12_worth 233 (xs (i + 1)) (xs (i + 2)) false hM) e2 rfl (by decide) (Nat.le_of_ble_eq_true rfl) dL_law_394 rfl ?_
  show Lj l D cA h0 ad b L xs sh P σ 397 [(0, .ref b), (1, .ref (h0 + 0)), (2, .ref (h0 + 233)), (3, .int (Int32.ofNat i))] [.int r, .int r]
  refine lj_icmp_eqY (tgt := 1399) rfl dL_law_397 (by decide) ?_
  exact kk

set_option maxHeartbeats 4000000 in
theorem lc_5t {tw dr i : Nat} {r : Int32} (hL : L ≤ 3072) (hi : i + 5 < L) (hv : ¬ xs (i + 3) = 0) (hT : LY11 sh P 0 tw dr) (hM : LY12 sh P 233) (e1 : mX11_worth 0 tw dr (xs (i + 1)) (xs (i + 2)) true σ = some r) (e2 : mX12_worth 233 (xs (i + 1)) (xs (i + 2)) true σ = some r) (kk : Lj l D cA h0 ad b L xs sh P σ 1399 [(0, .ref b), (1, .ref (h0 + 0)), (2, .ref (h0 + 233)), (3, .int (Int32.ofNat i))] []) : Lj l D cA h0 ad b L xs sh P σ 343 [(0, .ref b), (1, .ref (h0 + 0)), (2, .ref (h0 + 233)), (3, .int (Int32.ofNat i))] [] := by
  refine lj_aload_n (q := 344) dL_law_343 rfl (i := 1) rfl (pl := 1) rfl ?_
  refine lj_aload_n (q := 345) dL_law_344 rfl (i := 0) rfl (pl := 0) rfl ?_
  refine lj_iload_n (q := 346) dL_law_345 rfl (i := 3) rfl (pl := 3) rfl ?_
  refine lj_iconst (q := 347) (v := 1) dL_law_346 rfl (by decide) ?_
  refine lj_iadd (q := 348) dL_law_347 rfl ?_
  refine lj_sld (q := 349) (k := i + 1) (ofN_add i 1) (by omega) hL dL_law_348 rfl ?_
  refine lj_aload_n (q := 350) dL_law_349 rfl (i := 0) rfl (pl := 0) rfl ?_
  refine lj_iload_n (q := 351) dL_law_350 rfl (i := 3) rfl (pl := 3) rfl ?_
  refine lj_iconst (q := 352) (v := 2) dL_law_351 rfl (by decide) ?_
  refine lj_iadd (q := 353) dL_law_352 rfl ?_
  refine lj_sld (q := 354) (k := i + 2) (ofN_add i 2) (by omega) hL dL_law_353 rfl ?_
  refine lj_aload_n (q := 355) dL_law_354 rfl (i := 0) rfl (pl := 0) rfl ?_
  refine lj_iload_n (q := 356) dL_law_355 rfl (i := 3) rfl (pl := 3) rfl ?_
  refine lj_iconst (q := 357) (v := 3) dL_law_356 rfl (by decide) ?_
  refine lj_iadd (q := 358) dL_law_357 rfl ?_
  refine lj_sld (q := 359) (k := i + 3) (ofN_add i 3) (by omega) hL dL_law_358 rfl ?_
  refine lj_ifeqN (tgt := 366) (q := 362) hv dL_law_359 (by decide) rfl ?_
  refine lj_iconst (q := 363) (v := 1) dL_law_362 rfl (by decide) ?_
  refine lj_goto (q := 367) dL_law_363 (by decide) ?_
  refine lj_run (q := 370) (t := 0) (v := r) (As := [.int (xs (i + 1)), .int (xs (i + 2)), .int 1]) (rest := []) wi_RL_37 (hT).s rfl (rX11_worth 0 tw dr (xs (i + 1)) (xs (i + 2)) true hT) e1 rfl (by decide) (Nat.le_of_ble_eq_true rfl) dL_law_367 rfl ?_
  show Lj l D cA h0 ad b L xs sh P σ 370 [(0, .ref b), (1, .ref (h0 + 0)), (2, .ref (h0 + 233)), (3, .int (Int32.ofNat i))] [.int r]
  refine lj_aload_n (q := 371) dL_law_370 rfl (i := 2) rfl (pl := 2) rfl ?_
  refine lj_aload_n (q := 372) dL_law_371 rfl (i := 0) rfl (pl := 0) rfl ?_
  refine lj_iload_n (q := 373) dL_law_372 rfl (i := 3) rfl (pl := 3) rfl ?_
  refine lj_iconst (q := 374) (v := 1) dL_law_373 rfl (by decide) ?_
  refine lj_iadd (q := 375) dL_law_374 rfl ?_
  refine lj_sld (q := 376) (k := i + 1) (ofN_add i 1) (by omega) hL dL_law_375 rfl ?_
  refine lj_aload_n (q := 377) dL_law_376 rfl (i := 0) rfl (pl := 0) rfl ?_
  refine lj_iload_n (q := 378) dL_law_377 rfl (i := 3) rfl (pl := 3) rfl ?_
  refine lj_iconst (q := 379) (v := 2) dL_law_378 rfl (by decide) ?_
  refine lj_iadd (q := 380) dL_law_379 rfl ?_
  refine lj_sld (q := 381) (k := i + 2) (ofN_add i 2) (by omega) hL dL_law_380 rfl ?_
  refine lj_aload_n (q := 382) dL_law_381 rfl (i := 0) rfl (pl := 0) rfl ?_
  refine lj_iload_n (q := 383) dL_law_382 rfl (i := 3) rfl (pl := 3) rfl ?_
  refine lj_iconst (q := 384) (v := 3) dL_law_383 rfl (by decide) ?_
  refine lj_iadd (q := 385) dL_law_384 rfl ?_
  refine lj_sld (q := 386) (k := i + 3) (ofN_add i 3) (by omega) hL dL_law_385 rfl ?_
  refine lj_ifeqN (tgt := 393) (q := 389) hv dL_law_386 (by decide) rfl ?_
  refine lj_iconst (q := 390) (v := 1) dL_law_389 rfl (by decide) ?_
  refine lj_goto (q := 394) dL_law_390 (by decide) ?_
  refine lj_run (q := 397) (t := 233) (v := r) (As := [.int (xs (i + 1)), .int (xs (i + 2)), .int 1]) (rest := [.int r]) wi_RL_41 (hM).s rfl (rX12_worth 233 (xs (i + 1)) (xs (i + 2)) true hM) e2 rfl (by decide) (Nat.le_of_ble_eq_true rfl) dL_law_394 rfl ?_
  show Lj l D cA h0 ad b L xs sh P σ 397 [(0, .ref b), (1, .ref (h0 + 0)), (2, .ref (h0 + 233)), (3, .int (Int32.ofNat i))] [.int r, .int r]
  refine lj_icmp_eqY (tgt := 1399) rfl dL_law_397 (by decide) ?_
  exact kk

set_option maxHeartbeats 4000000 in
theorem lc_6f {tw dr i : Nat} {r : Int32} {σ2 : St_} (hL : L ≤ 3072) (hi : i + 5 < L) (hv : xs (i + 2) = 0) (hT : LY11 sh P 0 tw dr) (hM : LY12 sh P 233) (e1 : mX11_has 0 tw dr (xs (i + 1)) false σ = some r) (e2 : mX12_has 233 (xs (i + 1)) false σ = some (r, σ2)) (kk : Lj l D cA h0 ad b L xs sh P σ2 1399 [(0, .ref b), (1, .ref (h0 + 0)), (2, .ref (h0 + 233)), (3, .int (Int32.ofNat i))] []) : Lj l D cA h0 ad b L xs sh P σ 402 [(0, .ref b), (1, .ref (h0 + 0)), (2, .ref (h0 + 233)), (3, .int (Int32.ofNat i))] [] := by
  refine lj_aload_n (q := 403) dL_law_402 rfl (i := 1) rfl (pl := 1) rfl ?_
  refine lj_aload_n (q := 404) dL_law_403 rfl (i := 0) rfl (pl := 0) rfl ?_
  refine lj_iload_n (q := 405) dL_law_404 rfl (i := 3) rfl (pl := 3) rfl ?_
  refine lj_iconst (q := 406) (v := 1) dL_law_405 rfl (by decide) ?_
  refine lj_iadd (q := 407) dL_law_406 rfl ?_
  refine lj_sld (q := 408) (k := i + 1) (ofN_add i 1) (by omega) hL dL_law_407 rfl ?_
  refine lj_aload_n (q := 409) dL_law_408 rfl (i := 0) rfl (pl := 0) rfl ?_
  refine lj_iload_n (q := 410) dL_law_409 rfl (i := 3) rfl (pl := 3) rfl ?_
  refine lj_iconst (q := 411) (v := 2) dL_law_410 rfl (by decide) ?_
  refine lj_iadd (q := 412) dL_law_411 rfl ?_
  refine lj_sld (q := 413) (k := i + 2) (ofN_add i 2) (by omega) hL dL_law_412 rfl ?_
  refine lj_ifeqY (tgt := 420) hv dL_law_413 (by decide) ?_
  refine lj_iconst (q := 421) (v := 0) dL_law_420 rfl (by decide) ?_
  refine lj_run (q := 424) (t := 0) (v := r) (As := [.int (xs (i + 1)), .int 0]) (rest := []) wi_RL_42 (hT).s rfl (rX11_has 0 tw dr (xs (i + 1)) false hT) e1 rfl (by decide) (Nat.le_of_ble_eq_true rfl) dL_law_421 rfl ?_
  show Lj l D cA h0 ad b L xs sh P σ 424 [(0, .ref b), (1, .ref (h0 + 0)), (2, .ref (h0 + 233)), (3, .int (Int32.ofNat i))] [.int r]
  refine lj_aload_n (q := 425) dL_law_424 rfl (i := 2) rfl (pl := 2) rfl ?_
  refine lj_aload_n (q := 426) dL_law_425 rfl (i := 0) rfl (pl := 0) rfl ?_
  refine lj_iload_n (q := 427) dL_law_426 rfl (i := 3) rfl (pl := 3) rfl ?_
  refine lj_iconst (q := 428) (v := 1) dL_law_427 rfl (by decide) ?_
  refine lj_iadd (q := 429) dL_law_428 rfl ?_
  refine lj_sld (q := 430) (k := i + 1) (ofN_add i 1) (by omega) hL dL_law_429 rfl ?_
  refine lj_aload_n (q := 431) dL_law_430 rfl (i := 0) rfl (pl := 0) rfl ?_
  refine lj_iload_n (q := 432) dL_law_431 rfl (i := 3) rfl (pl := 3) rfl ?_
  refine lj_iconst (q := 433) (v := 2) dL_law_432 rfl (by decide) ?_
  refine lj_iadd (q := 434) dL_law_433 rfl ?_
  refine lj_sld (q := 435) (k := i + 2) (ofN_add i 2) (by omega) hL dL_law_434 rfl ?_
  refine lj_ifeqY (tgt := 442) hv dL_law_435 (by decide) ?_
  refine lj_iconst (q := 443) (v := 0) dL_law_442 rfl (by decide) ?_
  refine lj_run (q := 446) (t := 233) (v := (r, σ2)) (As := [.int (xs (i + 1)), .int 0]) (rest := [.int r]) wi_RL_46 (hM).s rfl (rX12_has 233 (xs (i + 1)) false hM) e2 rfl (by decide) (Nat.le_of_ble_eq_true rfl) dL_law_443 rfl ?_
  show Lj l D cA h0 ad b L xs sh P σ2 446 [(0, .ref b), (1, .ref (h0 + 0)), (2, .ref (h0 + 233)), (3, .int (Int32.ofNat i))] [.int r, .int r]
  refine lj_icmp_eqY (tgt := 1399) rfl dL_law_446 (by decide) ?_
  exact kk

set_option maxHeartbeats 4000000 in
theorem lc_6t {tw dr i : Nat} {r : Int32} {σ2 : St_} (hL : L ≤ 3072) (hi : i + 5 < L) (hv : ¬ xs (i + 2) = 0) (hT : LY11 sh P 0 tw dr) (hM : LY12 sh P 233) (e1 : mX11_has 0 tw dr (xs (i + 1)) true σ = some r) (e2 : mX12_has 233 (xs (i + 1)) true σ = some (r, σ2)) (kk : Lj l D cA h0 ad b L xs sh P σ2 1399 [(0, .ref b), (1, .ref (h0 + 0)), (2, .ref (h0 + 233)), (3, .int (Int32.ofNat i))] []) : Lj l D cA h0 ad b L xs sh P σ 402 [(0, .ref b), (1, .ref (h0 + 0)), (2, .ref (h0 + 233)), (3, .int (Int32.ofNat i))] [] := by
  refine lj_aload_n (q := 403) dL_law_402 rfl (i := 1) rfl (pl := 1) rfl ?_
  refine lj_aload_n (q := 404) dL_law_403 rfl (i := 0) rfl (pl := 0) rfl ?_
  refine lj_iload_n (q := 405) dL_law_404 rfl (i := 3) rfl (pl := 3) rfl ?_
  refine lj_iconst (q := 406) (v := 1) dL_law_405 rfl (by decide) ?_
  refine lj_iadd (q := 407) dL_law_406 rfl ?_
  refine lj_sld (q := 408) (k := i + 1) (ofN_add i 1) (by omega) hL dL_law_407 rfl ?_
  refine lj_aload_n (q := 409) dL_law_408 rfl (i := 0) rfl (pl := 0) rfl ?_
  refine lj_iload_n (q := 410) dL_law_409 rfl (i := 3) rfl (pl := 3) rfl ?_
  refine lj_iconst (q := 411) (v := 2) dL_law_410 rfl (by decide) ?_
  refine lj_iadd (q := 412) dL_law_411 rfl ?_
  refine lj_sld (q := 413) (k := i + 2) (ofN_add i 2) (by omega) hL dL_law_412 rfl ?_
  refine lj_ifeqN (tgt := 420) (q := 416) hv dL_law_413 (by decide) rfl ?_
  refine lj_iconst (q := 417) (v := 1) dL_law_416 rfl (by decide) ?_
  refine lj_goto (q := 421) dL_law_417 (by decide) ?_
  refine lj_run (q := 424) (t := 0) (v := r) (As := [.int (xs (i + 1)), .int 1]) (rest := []) wi_RL_42 (hT).s rfl (rX11_has 0 tw dr (xs (i + 1)) true hT) e1 rfl (by decide) (Nat.le_of_ble_eq_true rfl) dL_law_421 rfl ?_
  show Lj l D cA h0 ad b L xs sh P σ 424 [(0, .ref b), (1, .ref (h0 + 0)), (2, .ref (h0 + 233)), (3, .int (Int32.ofNat i))] [.int r]
  refine lj_aload_n (q := 425) dL_law_424 rfl (i := 2) rfl (pl := 2) rfl ?_
  refine lj_aload_n (q := 426) dL_law_425 rfl (i := 0) rfl (pl := 0) rfl ?_
  refine lj_iload_n (q := 427) dL_law_426 rfl (i := 3) rfl (pl := 3) rfl ?_
  refine lj_iconst (q := 428) (v := 1) dL_law_427 rfl (by decide) ?_
  refine lj_iadd (q := 429) dL_law_428 rfl ?_
  refine lj_sld (q := 430) (k := i + 1) (ofN_add i 1) (by omega) hL dL_law_429 rfl ?_
  refine lj_aload_n (q := 431) dL_law_430 rfl (i := 0) rfl (pl := 0) rfl ?_
  refine lj_iload_n (q := 432) dL_law_431 rfl (i := 3) rfl (pl := 3) rfl ?_
  refine lj_iconst (q := 433) (v := 2) dL_law_432 rfl (by decide) ?_
  refine lj_iadd (q := 434) dL_law_433 rfl ?_
  refine lj_sld (q := 435) (k := i + 2) (ofN_add i 2) (by omega) hL dL_law_434 rfl ?_
  refine lj_ifeqN (tgt := 442) (q := 438) hv dL_law_435 (by decide) rfl ?_
  refine lj_iconst (q := 439) (v := 1) dL_law_438 rfl (by decide) ?_
  refine lj_goto (q := 443) dL_law_439 (by decide) ?_
  refine lj_run (q := 446) (t := 233) (v := (r, σ2)) (As := [.int (xs (i + 1)), .int 1]) (rest := [.int r]) wi_RL_46 (hM).s rfl (rX12_has 233 (xs (i + 1)) true hM) e2 rfl (by decide) (Nat.le_of_ble_eq_true rfl) dL_law_443 rfl ?_
  show Lj l D cA h0 ad b L xs sh P σ2 446 [(0, .ref b), (1, .ref (h0 + 0)), (2, .ref (h0 + 233)), (3, .int (Int32.ofNat i))] [.int r, .int r]
  refine lj_icmp_eqY (tgt := 1399) rfl dL_law_446 (by decide) ?_
  exact kk

set_option maxHeartbeats 4000000 in
theorem lc_7f {tw dr i : Nat} {r : Int32} {σ2 : St_} (hL : L ≤ 3072) (hi : i + 5 < L) (hv : xs (i + 2) = 0) (hT : LY11 sh P 0 tw dr) (hM : LY12 sh P 233) (e1 : mX11_sum 0 tw dr (xs (i + 1)) false σ = some r) (e2 : mX12_sum 233 (xs (i + 1)) false σ = some (r, σ2)) (kk : Lj l D cA h0 ad b L xs sh P σ2 1399 [(0, .ref b), (1, .ref (h0 + 0)), (2, .ref (h0 + 233)), (3, .int (Int32.ofNat i))] []) : Lj l D cA h0 ad b L xs sh P σ 451 [(0, .ref b), (1, .ref (h0 + 0)), (2, .ref (h0 + 233)), (3, .int (Int32.ofNat i))] [] := by
  refine lj_aload_n (q := 452) dL_law_451 rfl (i := 1) rfl (pl := 1) rfl ?_
  refine lj_aload_n (q := 453) dL_law_452 rfl (i := 0) rfl (pl := 0) rfl ?_
  refine lj_iload_n (q := 454) dL_law_453 rfl (i := 3) rfl (pl := 3) rfl ?_
  refine lj_iconst (q := 455) (v := 1) dL_law_454 rfl (by decide) ?_
  refine lj_iadd (q := 456) dL_law_455 rfl ?_
  refine lj_sld (q := 457) (k := i + 1) (ofN_add i 1) (by omega) hL dL_law_456 rfl ?_
  refine lj_aload_n (q := 458) dL_law_457 rfl (i := 0) rfl (pl := 0) rfl ?_
  refine lj_iload_n (q := 459) dL_law_458 rfl (i := 3) rfl (pl := 3) rfl ?_
  refine lj_iconst (q := 460) (v := 2) dL_law_459 rfl (by decide) ?_
  refine lj_iadd (q := 461) dL_law_460 rfl ?_
  refine lj_sld (q := 462) (k := i + 2) (ofN_add i 2) (by omega) hL dL_law_461 rfl ?_
  refine lj_ifeqY (tgt := 469) hv dL_law_462 (by decide) ?_
  refine lj_iconst (q := 470) (v := 0) dL_law_469 rfl (by decide) ?_
  refine lj_run (q := 473) (t := 0) (v := r) (As := [.int (xs (i + 1)), .int 0]) (rest := []) wi_RL_47 (hT).s rfl (rX11_sum 0 tw dr (xs (i + 1)) false hT) e1 rfl (by decide) (Nat.le_of_ble_eq_true rfl) dL_law_470 rfl ?_
  show Lj l D cA h0 ad b L xs sh P σ 473 [(0, .ref b), (1, .ref (h0 + 0)), (2, .ref (h0 + 233)), (3, .int (Int32.ofNat i))] [.int r]
  refine lj_aload_n (q := 474) dL_law_473 rfl (i := 2) rfl (pl := 2) rfl ?_
  refine lj_aload_n (q := 475) dL_law_474 rfl (i := 0) rfl (pl := 0) rfl ?_
  refine lj_iload_n (q := 476) dL_law_475 rfl (i := 3) rfl (pl := 3) rfl ?_
  refine lj_iconst (q := 477) (v := 1) dL_law_476 rfl (by decide) ?_
  refine lj_iadd (q := 478) dL_law_477 rfl ?_
  refine lj_sld (q := 479) (k := i + 1) (ofN_add i 1) (by omega) hL dL_law_478 rfl ?_
  refine lj_aload_n (q := 480) dL_law_479 rfl (i := 0) rfl (pl := 0) rfl ?_
  refine lj_iload_n (q := 481) dL_law_480 rfl (i := 3) rfl (pl := 3) rfl ?_
  refine lj_iconst (q := 482) (v := 2) dL_law_481 rfl (by decide) ?_
  refine lj_iadd (q := 483) dL_law_482 rfl ?_
  refine lj_sld (q := 484) (k := i + 2) (ofN_add i 2) (by omega) hL dL_law_483 rfl ?_
  refine lj_ifeqY (tgt := 491) hv dL_law_484 (by decide) ?_
  refine lj_iconst (q := 492) (v := 0) dL_law_491 rfl (by decide) ?_
  refine lj_run (q := 495) (t := 233) (v := (r, σ2)) (As := [.int (xs (i + 1)), .int 0]) (rest := [.int r]) wi_RL_50 (hM).s rfl (rX12_sum 233 (xs (i + 1)) false hM) e2 rfl (by decide) (Nat.le_of_ble_eq_true rfl) dL_law_492 rfl ?_
  show Lj l D cA h0 ad b L xs sh P σ2 495 [(0, .ref b), (1, .ref (h0 + 0)), (2, .ref (h0 + 233)), (3, .int (Int32.ofNat i))] [.int r, .int r]
  refine lj_icmp_eqY (tgt := 1399) rfl dL_law_495 (by decide) ?_
  exact kk

set_option maxHeartbeats 4000000 in
theorem lc_7t {tw dr i : Nat} {r : Int32} {σ2 : St_} (hL : L ≤ 3072) (hi : i + 5 < L) (hv : ¬ xs (i + 2) = 0) (hT : LY11 sh P 0 tw dr) (hM : LY12 sh P 233) (e1 : mX11_sum 0 tw dr (xs (i + 1)) true σ = some r) (e2 : mX12_sum 233 (xs (i + 1)) true σ = some (r, σ2)) (kk : Lj l D cA h0 ad b L xs sh P σ2 1399 [(0, .ref b), (1, .ref (h0 + 0)), (2, .ref (h0 + 233)), (3, .int (Int32.ofNat i))] []) : Lj l D cA h0 ad b L xs sh P σ 451 [(0, .ref b), (1, .ref (h0 + 0)), (2, .ref (h0 + 233)), (3, .int (Int32.ofNat i))] [] := by
  refine lj_aload_n (q := 452) dL_law_451 rfl (i := 1) rfl (pl := 1) rfl ?_
  refine lj_aload_n (q := 453) dL_law_452 rfl (i := 0) rfl (pl := 0) rfl ?_
  refine lj_iload_n (q := 454) dL_law_453 rfl (i := 3) rfl (pl := 3) rfl ?_
  refine lj_iconst (q := 455) (v := 1) dL_law_454 rfl (by decide) ?_
  refine lj_iadd (q := 456) dL_law_455 rfl ?_
  refine lj_sld (q := 457) (k := i + 1) (ofN_add i 1) (by omega) hL dL_law_456 rfl ?_
  refine lj_aload_n (q := 458) dL_law_457 rfl (i := 0) rfl (pl := 0) rfl ?_
  refine lj_iload_n (q := 459) dL_law_458 rfl (i := 3) rfl (pl := 3) rfl ?_
  refine lj_iconst (q := 460) (v := 2) dL_law_459 rfl (by decide) ?_
  refine lj_iadd (q := 461) dL_law_460 rfl ?_
  refine lj_sld (q := 462) (k := i + 2) (ofN_add i 2) (by omega) hL dL_law_461 rfl ?_
  refine lj_ifeqN (tgt := 469) (q := 465) hv dL_law_462 (by decide) rfl ?_
  refine lj_iconst (q := 466) (v := 1) dL_law_465 rfl (by decide) ?_
  refine lj_goto (q := 470) dL_law_466 (by decide) ?_
  refine lj_run (q := 473) (t := 0) (v := r) (As := [.int (xs (i + 1)), .int 1]) (rest := []) wi_RL_47 (hT).s rfl (rX11_sum 0 tw dr (xs (i + 1)) true hT) e1 rfl (by decide) (Nat.le_of_ble_eq_true rfl) dL_law_470 rfl ?_
  show Lj l D cA h0 ad b L xs sh P σ 473 [(0, .ref b), (1, .ref (h0 + 0)), (2, .ref (h0 + 233)), (3, .int (Int32.ofNat i))] [.int r]
  refine lj_aload_n (q := 474) dL_law_473 rfl (i := 2) rfl (pl := 2) rfl ?_
  refine lj_aload_n (q := 475) dL_law_474 rfl (i := 0) rfl (pl := 0) rfl ?_
  refine lj_iload_n (q := 476) dL_law_475 rfl (i := 3) rfl (pl := 3) rfl ?_
  refine lj_iconst (q := 477) (v := 1) dL_law_476 rfl (by decide) ?_
  refine lj_iadd (q := 478) dL_law_477 rfl ?_
  refine lj_sld (q := 479) (k := i + 1) (ofN_add i 1) (by omega) hL dL_law_478 rfl ?_
  refine lj_aload_n (q := 480) dL_law_479 rfl (i := 0) rfl (pl := 0) rfl ?_
  refine lj_iload_n (q := 481) dL_law_480 rfl (i := 3) rfl (pl := 3) rfl ?_
  refine lj_iconst (q := 482) (v := 2) dL_law_481 rfl (by decide) ?_
  refine lj_iadd (q := 483) dL_law_482 rfl ?_
  refine lj_sld (q := 484) (k := i + 2) (ofN_add i 2) (by omega) hL dL_law_483 rfl ?_
  refine lj_ifeqN (tgt := 491) (q := 487) hv dL_law_484 (by decide) rfl ?_
  refine lj_iconst (q := 488) (v := 1) dL_law_487 rfl (by decide) ?_
  refine lj_goto (q := 492) dL_law_488 (by decide) ?_
  refine lj_run (q := 495) (t := 233) (v := (r, σ2)) (As := [.int (xs (i + 1)), .int 1]) (rest := [.int r]) wi_RL_50 (hM).s rfl (rX12_sum 233 (xs (i + 1)) true hM) e2 rfl (by decide) (Nat.le_of_ble_eq_true rfl) dL_law_492 rfl ?_
  show Lj l D cA h0 ad b L xs sh P σ2 495 [(0, .ref b), (1, .ref (h0 + 0)), (2, .ref (h0 + 233)), (3, .int (Int32.ofNat i))] [.int r, .int r]
  refine lj_icmp_eqY (tgt := 1399) rfl dL_law_495 (by decide) ?_
  exact kk

set_option maxHeartbeats 4000000 in
theorem lc_8 {tw dr i : Nat} {r : Int32} {σ2 : St_} (hL : L ≤ 3072) (hi : i + 5 < L) (hT : LY11 sh P 0 tw dr) (hM : LY12 sh P 233) (e1 : mX11_thief 0 tw dr (xs (i + 1)) (xs (i + 2)) σ = some r) (e2 : mX12_thief 233 (xs (i + 1)) (xs (i + 2)) σ = some (r, σ2)) (kk : Lj l D cA h0 ad b L xs sh P σ2 1399 [(0, .ref b), (1, .ref (h0 + 0)), (2, .ref (h0 + 233)), (3, .int (Int32.ofNat i))] []) : Lj l D cA h0 ad b L xs sh P σ 500 [(0, .ref b), (1, .ref (h0 + 0)), (2, .ref (h0 + 233)), (3, .int (Int32.ofNat i))] [] := by
  refine lj_aload_n (q := 501) dL_law_500 rfl (i := 1) rfl (pl := 1) rfl ?_
  refine lj_aload_n (q := 502) dL_law_501 rfl (i := 0) rfl (pl := 0) rfl ?_
  refine lj_iload_n (q := 503) dL_law_502 rfl (i := 3) rfl (pl := 3) rfl ?_
  refine lj_iconst (q := 504) (v := 1) dL_law_503 rfl (by decide) ?_
  refine lj_iadd (q := 505) dL_law_504 rfl ?_
  refine lj_sld (q := 506) (k := i + 1) (ofN_add i 1) (by omega) hL dL_law_505 rfl ?_
  refine lj_aload_n (q := 507) dL_law_506 rfl (i := 0) rfl (pl := 0) rfl ?_
  refine lj_iload_n (q := 508) dL_law_507 rfl (i := 3) rfl (pl := 3) rfl ?_
  refine lj_iconst (q := 509) (v := 2) dL_law_508 rfl (by decide) ?_
  refine lj_iadd (q := 510) dL_law_509 rfl ?_
  refine lj_sld (q := 511) (k := i + 2) (ofN_add i 2) (by omega) hL dL_law_510 rfl ?_
  refine lj_run (q := 514) (t := 0) (v := r) (As := [.int (xs (i + 1)), .int (xs (i + 2))]) (rest := []) wi_RL_51 (hT).s rfl (rX11_thief 0 tw dr (xs (i + 1)) (xs (i + 2)) hT) e1 rfl (by decide) (Nat.le_of_ble_eq_true rfl) dL_law_511 rfl ?_
  show Lj l D cA h0 ad b L xs sh P σ 514 [(0, .ref b), (1, .ref (h0 + 0)), (2, .ref (h0 + 233)), (3, .int (Int32.ofNat i))] [.int r]
  refine lj_aload_n (q := 515) dL_law_514 rfl (i := 2) rfl (pl := 2) rfl ?_
  refine lj_aload_n (q := 516) dL_law_515 rfl (i := 0) rfl (pl := 0) rfl ?_
  refine lj_iload_n (q := 517) dL_law_516 rfl (i := 3) rfl (pl := 3) rfl ?_
  refine lj_iconst (q := 518) (v := 1) dL_law_517 rfl (by decide) ?_
  refine lj_iadd (q := 519) dL_law_518 rfl ?_
  refine lj_sld (q := 520) (k := i + 1) (ofN_add i 1) (by omega) hL dL_law_519 rfl ?_
  refine lj_aload_n (q := 521) dL_law_520 rfl (i := 0) rfl (pl := 0) rfl ?_
  refine lj_iload_n (q := 522) dL_law_521 rfl (i := 3) rfl (pl := 3) rfl ?_
  refine lj_iconst (q := 523) (v := 2) dL_law_522 rfl (by decide) ?_
  refine lj_iadd (q := 524) dL_law_523 rfl ?_
  refine lj_sld (q := 525) (k := i + 2) (ofN_add i 2) (by omega) hL dL_law_524 rfl ?_
  refine lj_run (q := 528) (t := 233) (v := (r, σ2)) (As := [.int (xs (i + 1)), .int (xs (i + 2))]) (rest := [.int r]) wi_RL_54 (hM).s rfl (rX12_thief 233 (xs (i + 1)) (xs (i + 2)) hM) e2 rfl (by decide) (Nat.le_of_ble_eq_true rfl) dL_law_525 rfl ?_
  show Lj l D cA h0 ad b L xs sh P σ2 528 [(0, .ref b), (1, .ref (h0 + 0)), (2, .ref (h0 + 233)), (3, .int (Int32.ofNat i))] [.int r, .int r]
  refine lj_icmp_eqY (tgt := 1399) rfl dL_law_528 (by decide) ?_
  exact kk

set_option maxHeartbeats 4000000 in
theorem lc_9 {tw dr i : Nat} {r : Int32} (hL : L ≤ 3072) (hi : i + 5 < L) (hT : LY11 sh P 0 tw dr) (hM : LY12 sh P 233) (e1 : mX11_minutes 0 tw dr (xs (i + 1)) (xs (i + 2)) (xs (i + 3)) σ = some r) (e2 : mX12_minutes 233 (xs (i + 1)) (xs (i + 2)) (xs (i + 3)) σ = some r) (kk : Lj l D cA h0 ad b L xs sh P σ 1399 [(0, .ref b), (1, .ref (h0 + 0)), (2, .ref (h0 + 233)), (3, .int (Int32.ofNat i))] []) : Lj l D cA h0 ad b L xs sh P σ 533 [(0, .ref b), (1, .ref (h0 + 0)), (2, .ref (h0 + 233)), (3, .int (Int32.ofNat i))] [] := by
  refine lj_aload_n (q := 534) dL_law_533 rfl (i := 1) rfl (pl := 1) rfl ?_
  refine lj_aload_n (q := 535) dL_law_534 rfl (i := 0) rfl (pl := 0) rfl ?_
  refine lj_iload_n (q := 536) dL_law_535 rfl (i := 3) rfl (pl := 3) rfl ?_
  refine lj_iconst (q := 537) (v := 1) dL_law_536 rfl (by decide) ?_
  refine lj_iadd (q := 538) dL_law_537 rfl ?_
  refine lj_sld (q := 539) (k := i + 1) (ofN_add i 1) (by omega) hL dL_law_538 rfl ?_
  refine lj_aload_n (q := 540) dL_law_539 rfl (i := 0) rfl (pl := 0) rfl ?_
  refine lj_iload_n (q := 541) dL_law_540 rfl (i := 3) rfl (pl := 3) rfl ?_
  refine lj_iconst (q := 542) (v := 2) dL_law_541 rfl (by decide) ?_
  refine lj_iadd (q := 543) dL_law_542 rfl ?_
  refine lj_sld (q := 544) (k := i + 2) (ofN_add i 2) (by omega) hL dL_law_543 rfl ?_
  refine lj_aload_n (q := 545) dL_law_544 rfl (i := 0) rfl (pl := 0) rfl ?_
  refine lj_iload_n (q := 546) dL_law_545 rfl (i := 3) rfl (pl := 3) rfl ?_
  refine lj_iconst (q := 547) (v := 3) dL_law_546 rfl (by decide) ?_
  refine lj_iadd (q := 548) dL_law_547 rfl ?_
  refine lj_sld (q := 549) (k := i + 3) (ofN_add i 3) (by omega) hL dL_law_548 rfl ?_
  refine lj_run (q := 552) (t := 0) (v := r) (As := [.int (xs (i + 1)), .int (xs (i + 2)), .int (xs (i + 3))]) (rest := []) wi_RL_55 (hT).s rfl (rX11_minutes 0 tw dr (xs (i + 1)) (xs (i + 2)) (xs (i + 3)) hT) e1 rfl (by decide) (Nat.le_of_ble_eq_true rfl) dL_law_549 rfl ?_
  show Lj l D cA h0 ad b L xs sh P σ 552 [(0, .ref b), (1, .ref (h0 + 0)), (2, .ref (h0 + 233)), (3, .int (Int32.ofNat i))] [.int r]
  refine lj_aload_n (q := 553) dL_law_552 rfl (i := 2) rfl (pl := 2) rfl ?_
  refine lj_aload_n (q := 554) dL_law_553 rfl (i := 0) rfl (pl := 0) rfl ?_
  refine lj_iload_n (q := 555) dL_law_554 rfl (i := 3) rfl (pl := 3) rfl ?_
  refine lj_iconst (q := 556) (v := 1) dL_law_555 rfl (by decide) ?_
  refine lj_iadd (q := 557) dL_law_556 rfl ?_
  refine lj_sld (q := 558) (k := i + 1) (ofN_add i 1) (by omega) hL dL_law_557 rfl ?_
  refine lj_aload_n (q := 559) dL_law_558 rfl (i := 0) rfl (pl := 0) rfl ?_
  refine lj_iload_n (q := 560) dL_law_559 rfl (i := 3) rfl (pl := 3) rfl ?_
  refine lj_iconst (q := 561) (v := 2) dL_law_560 rfl (by decide) ?_
  refine lj_iadd (q := 562) dL_law_561 rfl ?_
  refine lj_sld (q := 563) (k := i + 2) (ofN_add i 2) (by omega) hL dL_law_562 rfl ?_
  refine lj_aload_n (q := 564) dL_law_563 rfl (i := 0) rfl (pl := 0) rfl ?_
  refine lj_iload_n (q := 565) dL_law_564 rfl (i := 3) rfl (pl := 3) rfl ?_
  refine lj_iconst (q := 566) (v := 3) dL_law_565 rfl (by decide) ?_
  refine lj_iadd (q := 567) dL_law_566 rfl ?_
  refine lj_sld (q := 568) (k := i + 3) (ofN_add i 3) (by omega) hL dL_law_567 rfl ?_
  refine lj_run (q := 571) (t := 233) (v := r) (As := [.int (xs (i + 1)), .int (xs (i + 2)), .int (xs (i + 3))]) (rest := [.int r]) wi_RL_59 (hM).s rfl (rX12_minutes 233 (xs (i + 1)) (xs (i + 2)) (xs (i + 3)) hM) e2 rfl (by decide) (Nat.le_of_ble_eq_true rfl) dL_law_568 rfl ?_
  show Lj l D cA h0 ad b L xs sh P σ 571 [(0, .ref b), (1, .ref (h0 + 0)), (2, .ref (h0 + 233)), (3, .int (Int32.ofNat i))] [.int r, .int r]
  refine lj_icmp_eqY (tgt := 1399) rfl dL_law_571 (by decide) ?_
  exact kk

set_option maxHeartbeats 4000000 in
theorem lc_10 {tw dr i : Nat} {r : Int32} {σ1 : St_} {σ2 : St_} (hL : L ≤ 3072) (hi : i + 5 < L) (hT : LY11 sh P 0 tw dr) (hM : LY12 sh P 233) (e1 : mX11_may 0 tw dr (xs (i + 1)) (xs (i + 2)) (xs (i + 3)) (xs (i + 4)) (xs (i + 5)) σ = some (r, σ1)) (e2 : mX12_may 233 (xs (i + 1)) (xs (i + 2)) (xs (i + 3)) (xs (i + 4)) (xs (i + 5)) σ1 = some (r, σ2)) (kk : Lj l D cA h0 ad b L xs sh P σ2 1399 [(0, .ref b), (1, .ref (h0 + 0)), (2, .ref (h0 + 233)), (3, .int (Int32.ofNat i))] []) : Lj l D cA h0 ad b L xs sh P σ 576 [(0, .ref b), (1, .ref (h0 + 0)), (2, .ref (h0 + 233)), (3, .int (Int32.ofNat i))] [] := by
  refine lj_aload_n (q := 577) dL_law_576 rfl (i := 1) rfl (pl := 1) rfl ?_
  refine lj_aload_n (q := 578) dL_law_577 rfl (i := 0) rfl (pl := 0) rfl ?_
  refine lj_iload_n (q := 579) dL_law_578 rfl (i := 3) rfl (pl := 3) rfl ?_
  refine lj_iconst (q := 580) (v := 1) dL_law_579 rfl (by decide) ?_
  refine lj_iadd (q := 581) dL_law_580 rfl ?_
  refine lj_sld (q := 582) (k := i + 1) (ofN_add i 1) (by omega) hL dL_law_581 rfl ?_
  refine lj_aload_n (q := 583) dL_law_582 rfl (i := 0) rfl (pl := 0) rfl ?_
  refine lj_iload_n (q := 584) dL_law_583 rfl (i := 3) rfl (pl := 3) rfl ?_
  refine lj_iconst (q := 585) (v := 2) dL_law_584 rfl (by decide) ?_
  refine lj_iadd (q := 586) dL_law_585 rfl ?_
  refine lj_sld (q := 587) (k := i + 2) (ofN_add i 2) (by omega) hL dL_law_586 rfl ?_
  refine lj_aload_n (q := 588) dL_law_587 rfl (i := 0) rfl (pl := 0) rfl ?_
  refine lj_iload_n (q := 589) dL_law_588 rfl (i := 3) rfl (pl := 3) rfl ?_
  refine lj_iconst (q := 590) (v := 3) dL_law_589 rfl (by decide) ?_
  refine lj_iadd (q := 591) dL_law_590 rfl ?_
  refine lj_sld (q := 592) (k := i + 3) (ofN_add i 3) (by omega) hL dL_law_591 rfl ?_
  refine lj_aload_n (q := 593) dL_law_592 rfl (i := 0) rfl (pl := 0) rfl ?_
  refine lj_iload_n (q := 594) dL_law_593 rfl (i := 3) rfl (pl := 3) rfl ?_
  refine lj_iconst (q := 595) (v := 4) dL_law_594 rfl (by decide) ?_
  refine lj_iadd (q := 596) dL_law_595 rfl ?_
  refine lj_sld (q := 597) (k := i + 4) (ofN_add i 4) (by omega) hL dL_law_596 rfl ?_
  refine lj_aload_n (q := 598) dL_law_597 rfl (i := 0) rfl (pl := 0) rfl ?_
  refine lj_iload_n (q := 599) dL_law_598 rfl (i := 3) rfl (pl := 3) rfl ?_
  refine lj_iconst (q := 600) (v := 5) dL_law_599 rfl (by decide) ?_
  refine lj_iadd (q := 601) dL_law_600 rfl ?_
  refine lj_sld (q := 602) (k := i + 5) (ofN_add i 5) (by omega) hL dL_law_601 rfl ?_
  refine lj_run (q := 605) (t := 0) (v := (r, σ1)) (As := [.int (xs (i + 1)), .int (xs (i + 2)), .int (xs (i + 3)), .int (xs (i + 4)), .int (xs (i + 5))]) (rest := []) wi_RL_60 (hT).s rfl (rX11_may 0 tw dr (xs (i + 1)) (xs (i + 2)) (xs (i + 3)) (xs (i + 4)) (xs (i + 5)) hT) e1 rfl (by decide) (Nat.le_of_ble_eq_true rfl) dL_law_602 rfl ?_
  show Lj l D cA h0 ad b L xs sh P σ1 605 [(0, .ref b), (1, .ref (h0 + 0)), (2, .ref (h0 + 233)), (3, .int (Int32.ofNat i))] [.int r]
  refine lj_aload_n (q := 606) dL_law_605 rfl (i := 2) rfl (pl := 2) rfl ?_
  refine lj_aload_n (q := 607) dL_law_606 rfl (i := 0) rfl (pl := 0) rfl ?_
  refine lj_iload_n (q := 608) dL_law_607 rfl (i := 3) rfl (pl := 3) rfl ?_
  refine lj_iconst (q := 609) (v := 1) dL_law_608 rfl (by decide) ?_
  refine lj_iadd (q := 610) dL_law_609 rfl ?_
  refine lj_sld (q := 611) (k := i + 1) (ofN_add i 1) (by omega) hL dL_law_610 rfl ?_
  refine lj_aload_n (q := 612) dL_law_611 rfl (i := 0) rfl (pl := 0) rfl ?_
  refine lj_iload_n (q := 613) dL_law_612 rfl (i := 3) rfl (pl := 3) rfl ?_
  refine lj_iconst (q := 614) (v := 2) dL_law_613 rfl (by decide) ?_
  refine lj_iadd (q := 615) dL_law_614 rfl ?_
  refine lj_sld (q := 616) (k := i + 2) (ofN_add i 2) (by omega) hL dL_law_615 rfl ?_
  refine lj_aload_n (q := 617) dL_law_616 rfl (i := 0) rfl (pl := 0) rfl ?_
  refine lj_iload_n (q := 618) dL_law_617 rfl (i := 3) rfl (pl := 3) rfl ?_
  refine lj_iconst (q := 619) (v := 3) dL_law_618 rfl (by decide) ?_
  refine lj_iadd (q := 620) dL_law_619 rfl ?_
  refine lj_sld (q := 621) (k := i + 3) (ofN_add i 3) (by omega) hL dL_law_620 rfl ?_
  refine lj_aload_n (q := 622) dL_law_621 rfl (i := 0) rfl (pl := 0) rfl ?_
  refine lj_iload_n (q := 623) dL_law_622 rfl (i := 3) rfl (pl := 3) rfl ?_
  refine lj_iconst (q := 624) (v := 4) dL_law_623 rfl (by decide) ?_
  refine lj_iadd (q := 625) dL_law_624 rfl ?_
  refine lj_sld (q := 626) (k := i + 4) (ofN_add i 4) (by omega) hL dL_law_625 rfl ?_
  refine lj_aload_n (q := 627) dL_law_626 rfl (i := 0) rfl (pl := 0) rfl ?_
  refine lj_iload_n (q := 628) dL_law_627 rfl (i := 3) rfl (pl := 3) rfl ?_
  refine lj_iconst (q := 629) (v := 5) dL_law_628 rfl (by decide) ?_
  refine lj_iadd (q := 630) dL_law_629 rfl ?_
  refine lj_sld (q := 631) (k := i + 5) (ofN_add i 5) (by omega) hL dL_law_630 rfl ?_
  refine lj_run (q := 634) (t := 233) (v := (r, σ2)) (As := [.int (xs (i + 1)), .int (xs (i + 2)), .int (xs (i + 3)), .int (xs (i + 4)), .int (xs (i + 5))]) (rest := [.int r]) wi_RL_63 (hM).s rfl (rX12_may 233 (xs (i + 1)) (xs (i + 2)) (xs (i + 3)) (xs (i + 4)) (xs (i + 5)) hM) e2 rfl (by decide) (Nat.le_of_ble_eq_true rfl) dL_law_631 rfl ?_
  show Lj l D cA h0 ad b L xs sh P σ2 634 [(0, .ref b), (1, .ref (h0 + 0)), (2, .ref (h0 + 233)), (3, .int (Int32.ofNat i))] [.int r, .int r]
  refine lj_icmp_eqY (tgt := 1399) rfl dL_law_634 (by decide) ?_
  exact kk

set_option maxHeartbeats 4000000 in
theorem lc_11 {tw dr i : Nat} {r : Int32} {σ1 : St_} {σ2 : St_} (hL : L ≤ 3072) (hi : i + 5 < L) (hT : LY11 sh P 0 tw dr) (hM : LY12 sh P 233) (e1 : mX11_theft 0 tw dr (xs (i + 1)) (xs (i + 2)) (xs (i + 3)) (xs (i + 4)) σ = some (r, σ1)) (e2 : mX12_theft 233 (xs (i + 1)) (xs (i + 2)) (xs (i + 3)) (xs (i + 4)) σ1 = some (r, σ2)) (kk : Lj l D cA h0 ad b L xs sh P σ2 1399 [(0, .ref b), (1, .ref (h0 + 0)), (2, .ref (h0 + 233)), (3, .int (Int32.ofNat i))] []) : Lj l D cA h0 ad b L xs sh P σ 639 [(0, .ref b), (1, .ref (h0 + 0)), (2, .ref (h0 + 233)), (3, .int (Int32.ofNat i))] [] := by
  refine lj_aload_n (q := 640) dL_law_639 rfl (i := 1) rfl (pl := 1) rfl ?_
  refine lj_aload_n (q := 641) dL_law_640 rfl (i := 0) rfl (pl := 0) rfl ?_
  refine lj_iload_n (q := 642) dL_law_641 rfl (i := 3) rfl (pl := 3) rfl ?_
  refine lj_iconst (q := 643) (v := 1) dL_law_642 rfl (by decide) ?_
  refine lj_iadd (q := 644) dL_law_643 rfl ?_
  refine lj_sld (q := 645) (k := i + 1) (ofN_add i 1) (by omega) hL dL_law_644 rfl ?_
  refine lj_aload_n (q := 646) dL_law_645 rfl (i := 0) rfl (pl := 0) rfl ?_
  refine lj_iload_n (q := 647) dL_law_646 rfl (i := 3) rfl (pl := 3) rfl ?_
  refine lj_iconst (q := 648) (v := 2) dL_law_647 rfl (by decide) ?_
  refine lj_iadd (q := 649) dL_law_648 rfl ?_
  refine lj_sld (q := 650) (k := i + 2) (ofN_add i 2) (by omega) hL dL_law_649 rfl ?_
  refine lj_aload_n (q := 651) dL_law_650 rfl (i := 0) rfl (pl := 0) rfl ?_
  refine lj_iload_n (q := 652) dL_law_651 rfl (i := 3) rfl (pl := 3) rfl ?_
  refine lj_iconst (q := 653) (v := 3) dL_law_652 rfl (by decide) ?_
  refine lj_iadd (q := 654) dL_law_653 rfl ?_
  refine lj_sld (q := 655) (k := i + 3) (ofN_add i 3) (by omega) hL dL_law_654 rfl ?_
  refine lj_aload_n (q := 656) dL_law_655 rfl (i := 0) rfl (pl := 0) rfl ?_
  refine lj_iload_n (q := 657) dL_law_656 rfl (i := 3) rfl (pl := 3) rfl ?_
  refine lj_iconst (q := 658) (v := 4) dL_law_657 rfl (by decide) ?_
  refine lj_iadd (q := 659) dL_law_658 rfl ?_
  refine lj_sld (q := 660) (k := i + 4) (ofN_add i 4) (by omega) hL dL_law_659 rfl ?_
  refine lj_run (q := 663) (t := 0) (v := (r, σ1)) (As := [.int (xs (i + 1)), .int (xs (i + 2)), .int (xs (i + 3)), .int (xs (i + 4))]) (rest := []) wi_RL_64 (hT).s rfl (rX11_theft 0 tw dr (xs (i + 1)) (xs (i + 2)) (xs (i + 3)) (xs (i + 4)) hT) e1 rfl (by decide) (Nat.le_of_ble_eq_true rfl) dL_law_660 rfl ?_
  show Lj l D cA h0 ad b L xs sh P σ1 663 [(0, .ref b), (1, .ref (h0 + 0)), (2, .ref (h0 + 233)), (3, .int (Int32.ofNat i))] [.int r]
  refine lj_aload_n (q := 664) dL_law_663 rfl (i := 2) rfl (pl := 2) rfl ?_
  refine lj_aload_n (q := 665) dL_law_664 rfl (i := 0) rfl (pl := 0) rfl ?_
  refine lj_iload_n (q := 666) dL_law_665 rfl (i := 3) rfl (pl := 3) rfl ?_
  refine lj_iconst (q := 667) (v := 1) dL_law_666 rfl (by decide) ?_
  refine lj_iadd (q := 668) dL_law_667 rfl ?_
  refine lj_sld (q := 669) (k := i + 1) (ofN_add i 1) (by omega) hL dL_law_668 rfl ?_
  refine lj_aload_n (q := 670) dL_law_669 rfl (i := 0) rfl (pl := 0) rfl ?_
  refine lj_iload_n (q := 671) dL_law_670 rfl (i := 3) rfl (pl := 3) rfl ?_
  refine lj_iconst (q := 672) (v := 2) dL_law_671 rfl (by decide) ?_
  refine lj_iadd (q := 673) dL_law_672 rfl ?_
  refine lj_sld (q := 674) (k := i + 2) (ofN_add i 2) (by omega) hL dL_law_673 rfl ?_
  refine lj_aload_n (q := 675) dL_law_674 rfl (i := 0) rfl (pl := 0) rfl ?_
  refine lj_iload_n (q := 676) dL_law_675 rfl (i := 3) rfl (pl := 3) rfl ?_
  refine lj_iconst (q := 677) (v := 3) dL_law_676 rfl (by decide) ?_
  refine lj_iadd (q := 678) dL_law_677 rfl ?_
  refine lj_sld (q := 679) (k := i + 3) (ofN_add i 3) (by omega) hL dL_law_678 rfl ?_
  refine lj_aload_n (q := 680) dL_law_679 rfl (i := 0) rfl (pl := 0) rfl ?_
  refine lj_iload_n (q := 681) dL_law_680 rfl (i := 3) rfl (pl := 3) rfl ?_
  refine lj_iconst (q := 682) (v := 4) dL_law_681 rfl (by decide) ?_
  refine lj_iadd (q := 683) dL_law_682 rfl ?_
  refine lj_sld (q := 684) (k := i + 4) (ofN_add i 4) (by omega) hL dL_law_683 rfl ?_
  refine lj_run (q := 687) (t := 233) (v := (r, σ2)) (As := [.int (xs (i + 1)), .int (xs (i + 2)), .int (xs (i + 3)), .int (xs (i + 4))]) (rest := [.int r]) wi_RL_68 (hM).s rfl (rX12_theft 233 (xs (i + 1)) (xs (i + 2)) (xs (i + 3)) (xs (i + 4)) hM) e2 rfl (by decide) (Nat.le_of_ble_eq_true rfl) dL_law_684 rfl ?_
  show Lj l D cA h0 ad b L xs sh P σ2 687 [(0, .ref b), (1, .ref (h0 + 0)), (2, .ref (h0 + 233)), (3, .int (Int32.ofNat i))] [.int r, .int r]
  refine lj_icmp_eqY (tgt := 1399) rfl dL_law_687 (by decide) ?_
  exact kk

set_option maxHeartbeats 4000000 in
theorem lc_12 {tw dr i : Nat} {r : Int32} {σ1 : St_} {σ2 : St_} (hL : L ≤ 3072) (hi : i + 5 < L) (hT : LY11 sh P 0 tw dr) (hM : LY12 sh P 233) (e1 : mX11_waits 0 tw dr σ = some (r, σ1)) (e2 : mX12_waits 233 σ1 = some (r, σ2)) (kk : Lj l D cA h0 ad b L xs sh P σ2 1399 [(0, .ref b), (1, .ref (h0 + 0)), (2, .ref (h0 + 233)), (3, .int (Int32.ofNat i))] []) : Lj l D cA h0 ad b L xs sh P σ 692 [(0, .ref b), (1, .ref (h0 + 0)), (2, .ref (h0 + 233)), (3, .int (Int32.ofNat i))] [] := by
  refine lj_aload_n (q := 693) dL_law_692 rfl (i := 1) rfl (pl := 1) rfl ?_
  refine lj_run (q := 696) (t := 0) (v := (r, σ1)) (As := []) (rest := []) wi_RL_69 (hT).s rfl (rX11_waits 0 tw dr  hT) e1 rfl (by decide) (Nat.le_of_ble_eq_true rfl) dL_law_693 rfl ?_
  show Lj l D cA h0 ad b L xs sh P σ1 696 [(0, .ref b), (1, .ref (h0 + 0)), (2, .ref (h0 + 233)), (3, .int (Int32.ofNat i))] [.int r]
  refine lj_aload_n (q := 697) dL_law_696 rfl (i := 2) rfl (pl := 2) rfl ?_
  refine lj_run (q := 700) (t := 233) (v := (r, σ2)) (As := []) (rest := [.int r]) wi_RL_72 (hM).s rfl (rX12_waits 233  hM) e2 rfl (by decide) (Nat.le_of_ble_eq_true rfl) dL_law_697 rfl ?_
  show Lj l D cA h0 ad b L xs sh P σ2 700 [(0, .ref b), (1, .ref (h0 + 0)), (2, .ref (h0 + 233)), (3, .int (Int32.ofNat i))] [.int r, .int r]
  refine lj_icmp_eqY (tgt := 1399) rfl dL_law_700 (by decide) ?_
  exact kk

set_option maxHeartbeats 4000000 in
theorem lc_13f {tw dr i : Nat} {r : Bool} {σ1 : St_} {σ2 : St_} (hL : L ≤ 3072) (hi : i + 5 < L) (hv : xs (i + 3) = 0) (hT : LY11 sh P 0 tw dr) (hM : LY12 sh P 233) (e1 : mX11_gift 0 tw dr (xs (i + 1)) (xs (i + 2)) false σ = some (r, σ1)) (e2 : mX12_gift 233 (xs (i + 1)) (xs (i + 2)) false σ1 = some (r, σ2)) (kk : Lj l D cA h0 ad b L xs sh P σ2 1399 [(0, .ref b), (1, .ref (h0 + 0)), (2, .ref (h0 + 233)), (3, .int (Int32.ofNat i))] []) : Lj l D cA h0 ad b L xs sh P σ 705 [(0, .ref b), (1, .ref (h0 + 0)), (2, .ref (h0 + 233)), (3, .int (Int32.ofNat i))] [] := by
  refine lj_aload_n (q := 706) dL_law_705 rfl (i := 1) rfl (pl := 1) rfl ?_
  refine lj_aload_n (q := 707) dL_law_706 rfl (i := 0) rfl (pl := 0) rfl ?_
  refine lj_iload_n (q := 708) dL_law_707 rfl (i := 3) rfl (pl := 3) rfl ?_
  refine lj_iconst (q := 709) (v := 1) dL_law_708 rfl (by decide) ?_
  refine lj_iadd (q := 710) dL_law_709 rfl ?_
  refine lj_sld (q := 711) (k := i + 1) (ofN_add i 1) (by omega) hL dL_law_710 rfl ?_
  refine lj_aload_n (q := 712) dL_law_711 rfl (i := 0) rfl (pl := 0) rfl ?_
  refine lj_iload_n (q := 713) dL_law_712 rfl (i := 3) rfl (pl := 3) rfl ?_
  refine lj_iconst (q := 714) (v := 2) dL_law_713 rfl (by decide) ?_
  refine lj_iadd (q := 715) dL_law_714 rfl ?_
  refine lj_sld (q := 716) (k := i + 2) (ofN_add i 2) (by omega) hL dL_law_715 rfl ?_
  refine lj_aload_n (q := 717) dL_law_716 rfl (i := 0) rfl (pl := 0) rfl ?_
  refine lj_iload_n (q := 718) dL_law_717 rfl (i := 3) rfl (pl := 3) rfl ?_
  refine lj_iconst (q := 719) (v := 3) dL_law_718 rfl (by decide) ?_
  refine lj_iadd (q := 720) dL_law_719 rfl ?_
  refine lj_sld (q := 721) (k := i + 3) (ofN_add i 3) (by omega) hL dL_law_720 rfl ?_
  refine lj_ifeqY (tgt := 728) hv dL_law_721 (by decide) ?_
  refine lj_iconst (q := 729) (v := 0) dL_law_728 rfl (by decide) ?_
  refine lj_run (q := 732) (t := 0) (v := (r, σ1)) (As := [.int (xs (i + 1)), .int (xs (i + 2)), .int 0]) (rest := []) wi_RL_73 (hT).s rfl (rX11_gift 0 tw dr (xs (i + 1)) (xs (i + 2)) false hT) e1 rfl (by decide) (Nat.le_of_ble_eq_true rfl) dL_law_729 rfl ?_
  show Lj l D cA h0 ad b L xs sh P σ1 732 [(0, .ref b), (1, .ref (h0 + 0)), (2, .ref (h0 + 233)), (3, .int (Int32.ofNat i))] [.int (b2i r)]
  refine lj_aload_n (q := 733) dL_law_732 rfl (i := 2) rfl (pl := 2) rfl ?_
  refine lj_aload_n (q := 734) dL_law_733 rfl (i := 0) rfl (pl := 0) rfl ?_
  refine lj_iload_n (q := 735) dL_law_734 rfl (i := 3) rfl (pl := 3) rfl ?_
  refine lj_iconst (q := 736) (v := 1) dL_law_735 rfl (by decide) ?_
  refine lj_iadd (q := 737) dL_law_736 rfl ?_
  refine lj_sld (q := 738) (k := i + 1) (ofN_add i 1) (by omega) hL dL_law_737 rfl ?_
  refine lj_aload_n (q := 739) dL_law_738 rfl (i := 0) rfl (pl := 0) rfl ?_
  refine lj_iload_n (q := 740) dL_law_739 rfl (i := 3) rfl (pl := 3) rfl ?_
  refine lj_iconst (q := 741) (v := 2) dL_law_740 rfl (by decide) ?_
  refine lj_iadd (q := 742) dL_law_741 rfl ?_
  refine lj_sld (q := 743) (k := i + 2) (ofN_add i 2) (by omega) hL dL_law_742 rfl ?_
  refine lj_aload_n (q := 744) dL_law_743 rfl (i := 0) rfl (pl := 0) rfl ?_
  refine lj_iload_n (q := 745) dL_law_744 rfl (i := 3) rfl (pl := 3) rfl ?_
  refine lj_iconst (q := 746) (v := 3) dL_law_745 rfl (by decide) ?_
  refine lj_iadd (q := 747) dL_law_746 rfl ?_
  refine lj_sld (q := 748) (k := i + 3) (ofN_add i 3) (by omega) hL dL_law_747 rfl ?_
  refine lj_ifeqY (tgt := 755) hv dL_law_748 (by decide) ?_
  refine lj_iconst (q := 756) (v := 0) dL_law_755 rfl (by decide) ?_
  refine lj_run (q := 759) (t := 233) (v := (r, σ2)) (As := [.int (xs (i + 1)), .int (xs (i + 2)), .int 0]) (rest := [.int (b2i r)]) wi_RL_77 (hM).s rfl (rX12_gift 233 (xs (i + 1)) (xs (i + 2)) false hM) e2 rfl (by decide) (Nat.le_of_ble_eq_true rfl) dL_law_756 rfl ?_
  show Lj l D cA h0 ad b L xs sh P σ2 759 [(0, .ref b), (1, .ref (h0 + 0)), (2, .ref (h0 + 233)), (3, .int (Int32.ofNat i))] [.int (b2i r), .int (b2i r)]
  refine lj_icmp_eqY (tgt := 1399) rfl dL_law_759 (by decide) ?_
  exact kk

set_option maxHeartbeats 4000000 in
theorem lc_13t {tw dr i : Nat} {r : Bool} {σ1 : St_} {σ2 : St_} (hL : L ≤ 3072) (hi : i + 5 < L) (hv : ¬ xs (i + 3) = 0) (hT : LY11 sh P 0 tw dr) (hM : LY12 sh P 233) (e1 : mX11_gift 0 tw dr (xs (i + 1)) (xs (i + 2)) true σ = some (r, σ1)) (e2 : mX12_gift 233 (xs (i + 1)) (xs (i + 2)) true σ1 = some (r, σ2)) (kk : Lj l D cA h0 ad b L xs sh P σ2 1399 [(0, .ref b), (1, .ref (h0 + 0)), (2, .ref (h0 + 233)), (3, .int (Int32.ofNat i))] []) : Lj l D cA h0 ad b L xs sh P σ 705 [(0, .ref b), (1, .ref (h0 + 0)), (2, .ref (h0 + 233)), (3, .int (Int32.ofNat i))] [] := by
  refine lj_aload_n (q := 706) dL_law_705 rfl (i := 1) rfl (pl := 1) rfl ?_
  refine lj_aload_n (q := 707) dL_law_706 rfl (i := 0) rfl (pl := 0) rfl ?_
  refine lj_iload_n (q := 708) dL_law_707 rfl (i := 3) rfl (pl := 3) rfl ?_
  refine lj_iconst (q := 709) (v := 1) dL_law_708 rfl (by decide) ?_
  refine lj_iadd (q := 710) dL_law_709 rfl ?_
  refine lj_sld (q := 711) (k := i + 1) (ofN_add i 1) (by omega) hL dL_law_710 rfl ?_
  refine lj_aload_n (q := 712) dL_law_711 rfl (i := 0) rfl (pl := 0) rfl ?_
  refine lj_iload_n (q := 713) dL_law_712 rfl (i := 3) rfl (pl := 3) rfl ?_
  refine lj_iconst (q := 714) (v := 2) dL_law_713 rfl (by decide) ?_
  refine lj_iadd (q := 715) dL_law_714 rfl ?_
  refine lj_sld (q := 716) (k := i + 2) (ofN_add i 2) (by omega) hL dL_law_715 rfl ?_
  refine lj_aload_n (q := 717) dL_law_716 rfl (i := 0) rfl (pl := 0) rfl ?_
  refine lj_iload_n (q := 718) dL_law_717 rfl (i := 3) rfl (pl := 3) rfl ?_
  refine lj_iconst (q := 719) (v := 3) dL_law_718 rfl (by decide) ?_
  refine lj_iadd (q := 720) dL_law_719 rfl ?_
  refine lj_sld (q := 721) (k := i + 3) (ofN_add i 3) (by omega) hL dL_law_720 rfl ?_
  refine lj_ifeqN (tgt := 728) (q := 724) hv dL_law_721 (by decide) rfl ?_
  refine lj_iconst (q := 725) (v := 1) dL_law_724 rfl (by decide) ?_
  refine lj_goto (q := 729) dL_law_725 (by decide) ?_
  refine lj_run (q := 732) (t := 0) (v := (r, σ1)) (As := [.int (xs (i + 1)), .int (xs (i + 2)), .int 1]) (rest := []) wi_RL_73 (hT).s rfl (rX11_gift 0 tw dr (xs (i + 1)) (xs (i + 2)) true hT) e1 rfl (by decide) (Nat.le_of_ble_eq_true rfl) dL_law_729 rfl ?_
  show Lj l D cA h0 ad b L xs sh P σ1 732 [(0, .ref b), (1, .ref (h0 + 0)), (2, .ref (h0 + 233)), (3, .int (Int32.ofNat i))] [.int (b2i r)]
  refine lj_aload_n (q := 733) dL_law_732 rfl (i := 2) rfl (pl := 2) rfl ?_
  refine lj_aload_n (q := 734) dL_law_733 rfl (i := 0) rfl (pl := 0) rfl ?_
  refine lj_iload_n (q := 735) dL_law_734 rfl (i := 3) rfl (pl := 3) rfl ?_
  refine lj_iconst (q := 736) (v := 1) dL_law_735 rfl (by decide) ?_
  refine lj_iadd (q := 737) dL_law_736 rfl ?_
  refine lj_sld (q := 738) (k := i + 1) (ofN_add i 1) (by omega) hL dL_law_737 rfl ?_
  refine lj_aload_n (q := 739) dL_law_738 rfl (i := 0) rfl (pl := 0) rfl ?_
  refine lj_iload_n (q := 740) dL_law_739 rfl (i := 3) rfl (pl := 3) rfl ?_
  refine lj_iconst (q := 741) (v := 2) dL_law_740 rfl (by decide) ?_
  refine lj_iadd (q := 742) dL_law_741 rfl ?_
  refine lj_sld (q := 743) (k := i + 2) (ofN_add i 2) (by omega) hL dL_law_742 rfl ?_
  refine lj_aload_n (q := 744) dL_law_743 rfl (i := 0) rfl (pl := 0) rfl ?_
  refine lj_iload_n (q := 745) dL_law_744 rfl (i := 3) rfl (pl := 3) rfl ?_
  refine lj_iconst (q := 746) (v := 3) dL_law_745 rfl (by decide) ?_
  refine lj_iadd (q := 747) dL_law_746 rfl ?_
  refine lj_sld (q := 748) (k := i + 3) (ofN_add i 3) (by omega) hL dL_law_747 rfl ?_
  refine lj_ifeqN (tgt := 755) (q := 751) hv dL_law_748 (by decide) rfl ?_
  refine lj_iconst (q := 752) (v := 1) dL_law_751 rfl (by decide) ?_
  refine lj_goto (q := 756) dL_law_752 (by decide) ?_
  refine lj_run (q := 759) (t := 233) (v := (r, σ2)) (As := [.int (xs (i + 1)), .int (xs (i + 2)), .int 1]) (rest := [.int (b2i r)]) wi_RL_77 (hM).s rfl (rX12_gift 233 (xs (i + 1)) (xs (i + 2)) true hM) e2 rfl (by decide) (Nat.le_of_ble_eq_true rfl) dL_law_756 rfl ?_
  show Lj l D cA h0 ad b L xs sh P σ2 759 [(0, .ref b), (1, .ref (h0 + 0)), (2, .ref (h0 + 233)), (3, .int (Int32.ofNat i))] [.int (b2i r), .int (b2i r)]
  refine lj_icmp_eqY (tgt := 1399) rfl dL_law_759 (by decide) ?_
  exact kk

set_option maxHeartbeats 4000000 in
theorem lc_14 {tw dr i : Nat} {r : Bool} {σ1 : St_} {σ2 : St_} (hL : L ≤ 3072) (hi : i + 5 < L) (hT : LY11 sh P 0 tw dr) (hM : LY12 sh P 233) (e1 : mX11_undo 0 tw dr σ = some (r, σ1)) (e2 : mX12_undo 233 σ1 = some (r, σ2)) (kk : Lj l D cA h0 ad b L xs sh P σ2 1399 [(0, .ref b), (1, .ref (h0 + 0)), (2, .ref (h0 + 233)), (3, .int (Int32.ofNat i))] []) : Lj l D cA h0 ad b L xs sh P σ 764 [(0, .ref b), (1, .ref (h0 + 0)), (2, .ref (h0 + 233)), (3, .int (Int32.ofNat i))] [] := by
  refine lj_aload_n (q := 765) dL_law_764 rfl (i := 1) rfl (pl := 1) rfl ?_
  refine lj_run (q := 768) (t := 0) (v := (r, σ1)) (As := []) (rest := []) wi_RL_78 (hT).s rfl (rX11_undo 0 tw dr  hT) e1 rfl (by decide) (Nat.le_of_ble_eq_true rfl) dL_law_765 rfl ?_
  show Lj l D cA h0 ad b L xs sh P σ1 768 [(0, .ref b), (1, .ref (h0 + 0)), (2, .ref (h0 + 233)), (3, .int (Int32.ofNat i))] [.int (b2i r)]
  refine lj_aload_n (q := 769) dL_law_768 rfl (i := 2) rfl (pl := 2) rfl ?_
  refine lj_run (q := 772) (t := 233) (v := (r, σ2)) (As := []) (rest := [.int (b2i r)]) wi_RL_82 (hM).s rfl (rX12_undo 233  hM) e2 rfl (by decide) (Nat.le_of_ble_eq_true rfl) dL_law_769 rfl ?_
  show Lj l D cA h0 ad b L xs sh P σ2 772 [(0, .ref b), (1, .ref (h0 + 0)), (2, .ref (h0 + 233)), (3, .int (Int32.ofNat i))] [.int (b2i r), .int (b2i r)]
  refine lj_icmp_eqY (tgt := 1399) rfl dL_law_772 (by decide) ?_
  exact kk

set_option maxHeartbeats 4000000 in
theorem lc_15 {tw dr i : Nat} {r : Bool} {σ1 : St_} {σ2 : St_} (hL : L ≤ 3072) (hi : i + 5 < L) (hT : LY11 sh P 0 tw dr) (hM : LY12 sh P 233) (e1 : mX11_redo 0 tw dr σ = some (r, σ1)) (e2 : mX12_redo 233 σ1 = some (r, σ2)) (kk : Lj l D cA h0 ad b L xs sh P σ2 1399 [(0, .ref b), (1, .ref (h0 + 0)), (2, .ref (h0 + 233)), (3, .int (Int32.ofNat i))] []) : Lj l D cA h0 ad b L xs sh P σ 777 [(0, .ref b), (1, .ref (h0 + 0)), (2, .ref (h0 + 233)), (3, .int (Int32.ofNat i))] [] := by
  refine lj_aload_n (q := 778) dL_law_777 rfl (i := 1) rfl (pl := 1) rfl ?_
  refine lj_run (q := 781) (t := 0) (v := (r, σ1)) (As := []) (rest := []) wi_RL_83 (hT).s rfl (rX11_redo 0 tw dr  hT) e1 rfl (by decide) (Nat.le_of_ble_eq_true rfl) dL_law_778 rfl ?_
  show Lj l D cA h0 ad b L xs sh P σ1 781 [(0, .ref b), (1, .ref (h0 + 0)), (2, .ref (h0 + 233)), (3, .int (Int32.ofNat i))] [.int (b2i r)]
  refine lj_aload_n (q := 782) dL_law_781 rfl (i := 2) rfl (pl := 2) rfl ?_
  refine lj_run (q := 785) (t := 233) (v := (r, σ2)) (As := []) (rest := [.int (b2i r)]) wi_RL_86 (hM).s rfl (rX12_redo 233  hM) e2 rfl (by decide) (Nat.le_of_ble_eq_true rfl) dL_law_782 rfl ?_
  show Lj l D cA h0 ad b L xs sh P σ2 785 [(0, .ref b), (1, .ref (h0 + 0)), (2, .ref (h0 + 233)), (3, .int (Int32.ofNat i))] [.int (b2i r), .int (b2i r)]
  refine lj_icmp_eqY (tgt := 1399) rfl dL_law_785 (by decide) ?_
  exact kk

set_option maxHeartbeats 4000000 in
theorem lc_16 {tw dr i : Nat} {r : Int32} {σ1 : St_} {σ2 : St_} (hL : L ≤ 3072) (hi : i + 5 < L) (hT : LY11 sh P 0 tw dr) (hM : LY12 sh P 233) (e1 : mX11_swaps 0 tw dr (xs (i + 1)) σ = some (r, σ1)) (e2 : mX12_swaps 233 (xs (i + 1)) σ1 = some (r, σ2)) (kk : Lj l D cA h0 ad b L xs sh P σ2 1399 [(0, .ref b), (1, .ref (h0 + 0)), (2, .ref (h0 + 233)), (3, .int (Int32.ofNat i))] []) : Lj l D cA h0 ad b L xs sh P σ 790 [(0, .ref b), (1, .ref (h0 + 0)), (2, .ref (h0 + 233)), (3, .int (Int32.ofNat i))] [] := by
  refine lj_aload_n (q := 791) dL_law_790 rfl (i := 1) rfl (pl := 1) rfl ?_
  refine lj_aload_n (q := 792) dL_law_791 rfl (i := 0) rfl (pl := 0) rfl ?_
  refine lj_iload_n (q := 793) dL_law_792 rfl (i := 3) rfl (pl := 3) rfl ?_
  refine lj_iconst (q := 794) (v := 1) dL_law_793 rfl (by decide) ?_
  refine lj_iadd (q := 795) dL_law_794 rfl ?_
  refine lj_sld (q := 796) (k := i + 1) (ofN_add i 1) (by omega) hL dL_law_795 rfl ?_
  refine lj_run (q := 799) (t := 0) (v := (r, σ1)) (As := [.int (xs (i + 1))]) (rest := []) wi_RL_87 (hT).s rfl (rX11_swaps 0 tw dr (xs (i + 1)) hT) e1 rfl (by decide) (Nat.le_of_ble_eq_true rfl) dL_law_796 rfl ?_
  show Lj l D cA h0 ad b L xs sh P σ1 799 [(0, .ref b), (1, .ref (h0 + 0)), (2, .ref (h0 + 233)), (3, .int (Int32.ofNat i))] [.int r]
  refine lj_aload_n (q := 800) dL_law_799 rfl (i := 2) rfl (pl := 2) rfl ?_
  refine lj_aload_n (q := 801) dL_law_800 rfl (i := 0) rfl (pl := 0) rfl ?_
  refine lj_iload_n (q := 802) dL_law_801 rfl (i := 3) rfl (pl := 3) rfl ?_
  refine lj_iconst (q := 803) (v := 1) dL_law_802 rfl (by decide) ?_
  refine lj_iadd (q := 804) dL_law_803 rfl ?_
  refine lj_sld (q := 805) (k := i + 1) (ofN_add i 1) (by omega) hL dL_law_804 rfl ?_
  refine lj_run (q := 808) (t := 233) (v := (r, σ2)) (As := [.int (xs (i + 1))]) (rest := [.int r]) wi_RL_90 (hM).s rfl (rX12_swaps 233 (xs (i + 1)) hM) e2 rfl (by decide) (Nat.le_of_ble_eq_true rfl) dL_law_805 rfl ?_
  show Lj l D cA h0 ad b L xs sh P σ2 808 [(0, .ref b), (1, .ref (h0 + 0)), (2, .ref (h0 + 233)), (3, .int (Int32.ofNat i))] [.int r, .int r]
  refine lj_icmp_eqY (tgt := 1399) rfl dL_law_808 (by decide) ?_
  exact kk

set_option maxHeartbeats 4000000 in
theorem lc_17 {tw dr i : Nat} {r : Int32} {σ1 : St_} {σ2 : St_} (hL : L ≤ 3072) (hi : i + 5 < L) (hT : LY11 sh P 0 tw dr) (hM : LY12 sh P 233) (e1 : mX11_best 0 tw dr (xs (i + 1)) σ = some (r, σ1)) (e2 : mX12_best 233 (xs (i + 1)) σ1 = some (r, σ2)) (kk : Lj l D cA h0 ad b L xs sh P σ2 1399 [(0, .ref b), (1, .ref (h0 + 0)), (2, .ref (h0 + 233)), (3, .int (Int32.ofNat i))] []) : Lj l D cA h0 ad b L xs sh P σ 813 [(0, .ref b), (1, .ref (h0 + 0)), (2, .ref (h0 + 233)), (3, .int (Int32.ofNat i))] [] := by
  refine lj_aload_n (q := 814) dL_law_813 rfl (i := 1) rfl (pl := 1) rfl ?_
  refine lj_aload_n (q := 815) dL_law_814 rfl (i := 0) rfl (pl := 0) rfl ?_
  refine lj_iload_n (q := 816) dL_law_815 rfl (i := 3) rfl (pl := 3) rfl ?_
  refine lj_iconst (q := 817) (v := 1) dL_law_816 rfl (by decide) ?_
  refine lj_iadd (q := 818) dL_law_817 rfl ?_
  refine lj_sld (q := 819) (k := i + 1) (ofN_add i 1) (by omega) hL dL_law_818 rfl ?_
  refine lj_run (q := 822) (t := 0) (v := (r, σ1)) (As := [.int (xs (i + 1))]) (rest := []) wi_RL_91 (hT).s rfl (rX11_best 0 tw dr (xs (i + 1)) hT) e1 rfl (by decide) (Nat.le_of_ble_eq_true rfl) dL_law_819 rfl ?_
  show Lj l D cA h0 ad b L xs sh P σ1 822 [(0, .ref b), (1, .ref (h0 + 0)), (2, .ref (h0 + 233)), (3, .int (Int32.ofNat i))] [.int r]
  refine lj_aload_n (q := 823) dL_law_822 rfl (i := 2) rfl (pl := 2) rfl ?_
  refine lj_aload_n (q := 824) dL_law_823 rfl (i := 0) rfl (pl := 0) rfl ?_
  refine lj_iload_n (q := 825) dL_law_824 rfl (i := 3) rfl (pl := 3) rfl ?_
  refine lj_iconst (q := 826) (v := 1) dL_law_825 rfl (by decide) ?_
  refine lj_iadd (q := 827) dL_law_826 rfl ?_
  refine lj_sld (q := 828) (k := i + 1) (ofN_add i 1) (by omega) hL dL_law_827 rfl ?_
  refine lj_run (q := 831) (t := 233) (v := (r, σ2)) (As := [.int (xs (i + 1))]) (rest := [.int r]) wi_RL_94 (hM).s rfl (rX12_best 233 (xs (i + 1)) hM) e2 rfl (by decide) (Nat.le_of_ble_eq_true rfl) dL_law_828 rfl ?_
  show Lj l D cA h0 ad b L xs sh P σ2 831 [(0, .ref b), (1, .ref (h0 + 0)), (2, .ref (h0 + 233)), (3, .int (Int32.ofNat i))] [.int r, .int r]
  refine lj_icmp_eqY (tgt := 1399) rfl dL_law_831 (by decide) ?_
  exact kk

set_option maxHeartbeats 4000000 in
theorem lc_18 {tw dr i : Nat} {r : Int32} {σ1 : St_} {σ2 : St_} (hL : L ≤ 3072) (hi : i + 5 < L) (hT : LY11 sh P 0 tw dr) (hM : LY12 sh P 233) (e1 : mX11_tour 0 tw dr (xs (i + 1)) (xs (i + 2)) σ = some (r, σ1)) (e2 : mX12_tour 233 (xs (i + 1)) (xs (i + 2)) σ1 = some (r, σ2)) (kk : Lj l D cA h0 ad b L xs sh P σ2 1399 [(0, .ref b), (1, .ref (h0 + 0)), (2, .ref (h0 + 233)), (3, .int (Int32.ofNat i))] []) : Lj l D cA h0 ad b L xs sh P σ 836 [(0, .ref b), (1, .ref (h0 + 0)), (2, .ref (h0 + 233)), (3, .int (Int32.ofNat i))] [] := by
  refine lj_aload_n (q := 837) dL_law_836 rfl (i := 1) rfl (pl := 1) rfl ?_
  refine lj_aload_n (q := 838) dL_law_837 rfl (i := 0) rfl (pl := 0) rfl ?_
  refine lj_iload_n (q := 839) dL_law_838 rfl (i := 3) rfl (pl := 3) rfl ?_
  refine lj_iconst (q := 840) (v := 1) dL_law_839 rfl (by decide) ?_
  refine lj_iadd (q := 841) dL_law_840 rfl ?_
  refine lj_sld (q := 842) (k := i + 1) (ofN_add i 1) (by omega) hL dL_law_841 rfl ?_
  refine lj_aload_n (q := 843) dL_law_842 rfl (i := 0) rfl (pl := 0) rfl ?_
  refine lj_iload_n (q := 844) dL_law_843 rfl (i := 3) rfl (pl := 3) rfl ?_
  refine lj_iconst (q := 845) (v := 2) dL_law_844 rfl (by decide) ?_
  refine lj_iadd (q := 846) dL_law_845 rfl ?_
  refine lj_sld (q := 847) (k := i + 2) (ofN_add i 2) (by omega) hL dL_law_846 rfl ?_
  refine lj_run (q := 850) (t := 0) (v := (r, σ1)) (As := [.int (xs (i + 1)), .int (xs (i + 2))]) (rest := []) wi_RL_95 (hT).s rfl (rX11_tour 0 tw dr (xs (i + 1)) (xs (i + 2)) hT) e1 rfl (by decide) (Nat.le_of_ble_eq_true rfl) dL_law_847 rfl ?_
  show Lj l D cA h0 ad b L xs sh P σ1 850 [(0, .ref b), (1, .ref (h0 + 0)), (2, .ref (h0 + 233)), (3, .int (Int32.ofNat i))] [.int r]
  refine lj_aload_n (q := 851) dL_law_850 rfl (i := 2) rfl (pl := 2) rfl ?_
  refine lj_aload_n (q := 852) dL_law_851 rfl (i := 0) rfl (pl := 0) rfl ?_
  refine lj_iload_n (q := 853) dL_law_852 rfl (i := 3) rfl (pl := 3) rfl ?_
  refine lj_iconst (q := 854) (v := 1) dL_law_853 rfl (by decide) ?_
  refine lj_iadd (q := 855) dL_law_854 rfl ?_
  refine lj_sld (q := 856) (k := i + 1) (ofN_add i 1) (by omega) hL dL_law_855 rfl ?_
  refine lj_aload_n (q := 857) dL_law_856 rfl (i := 0) rfl (pl := 0) rfl ?_
  refine lj_iload_n (q := 858) dL_law_857 rfl (i := 3) rfl (pl := 3) rfl ?_
  refine lj_iconst (q := 859) (v := 2) dL_law_858 rfl (by decide) ?_
  refine lj_iadd (q := 860) dL_law_859 rfl ?_
  refine lj_sld (q := 861) (k := i + 2) (ofN_add i 2) (by omega) hL dL_law_860 rfl ?_
  refine lj_run (q := 864) (t := 233) (v := (r, σ2)) (As := [.int (xs (i + 1)), .int (xs (i + 2))]) (rest := [.int r]) wi_RL_98 (hM).s rfl (rX12_tour 233 (xs (i + 1)) (xs (i + 2)) hM) e2 rfl (by decide) (Nat.le_of_ble_eq_true rfl) dL_law_861 rfl ?_
  show Lj l D cA h0 ad b L xs sh P σ2 864 [(0, .ref b), (1, .ref (h0 + 0)), (2, .ref (h0 + 233)), (3, .int (Int32.ofNat i))] [.int r, .int r]
  refine lj_icmp_eqY (tgt := 1399) rfl dL_law_864 (by decide) ?_
  exact kk

set_option maxHeartbeats 4000000 in
theorem lc_19 {tw dr i : Nat} {r : Int32} {σ1 : St_} {σ2 : St_} (hL : L ≤ 3072) (hi : i + 5 < L) (hT : LY11 sh P 0 tw dr) (hM : LY12 sh P 233) (e1 : mX11_drift 0 tw dr (xs (i + 1)) (xs (i + 2)) σ = some (r, σ1)) (e2 : mX12_drift 233 (xs (i + 1)) (xs (i + 2)) σ1 = some (r, σ2)) (kk : Lj l D cA h0 ad b L xs sh P σ2 1399 [(0, .ref b), (1, .ref (h0 + 0)), (2, .ref (h0 + 233)), (3, .int (Int32.ofNat i))] []) : Lj l D cA h0 ad b L xs sh P σ 869 [(0, .ref b), (1, .ref (h0 + 0)), (2, .ref (h0 + 233)), (3, .int (Int32.ofNat i))] [] := by
  refine lj_aload_n (q := 870) dL_law_869 rfl (i := 1) rfl (pl := 1) rfl ?_
  refine lj_aload_n (q := 871) dL_law_870 rfl (i := 0) rfl (pl := 0) rfl ?_
  refine lj_iload_n (q := 872) dL_law_871 rfl (i := 3) rfl (pl := 3) rfl ?_
  refine lj_iconst (q := 873) (v := 1) dL_law_872 rfl (by decide) ?_
  refine lj_iadd (q := 874) dL_law_873 rfl ?_
  refine lj_sld (q := 875) (k := i + 1) (ofN_add i 1) (by omega) hL dL_law_874 rfl ?_
  refine lj_aload_n (q := 876) dL_law_875 rfl (i := 0) rfl (pl := 0) rfl ?_
  refine lj_iload_n (q := 877) dL_law_876 rfl (i := 3) rfl (pl := 3) rfl ?_
  refine lj_iconst (q := 878) (v := 2) dL_law_877 rfl (by decide) ?_
  refine lj_iadd (q := 879) dL_law_878 rfl ?_
  refine lj_sld (q := 880) (k := i + 2) (ofN_add i 2) (by omega) hL dL_law_879 rfl ?_
  refine lj_run (q := 883) (t := 0) (v := (r, σ1)) (As := [.int (xs (i + 1)), .int (xs (i + 2))]) (rest := []) wi_RL_99 (hT).s rfl (rX11_drift 0 tw dr (xs (i + 1)) (xs (i + 2)) hT) e1 rfl (by decide) (Nat.le_of_ble_eq_true rfl) dL_law_880 rfl ?_
  show Lj l D cA h0 ad b L xs sh P σ1 883 [(0, .ref b), (1, .ref (h0 + 0)), (2, .ref (h0 + 233)), (3, .int (Int32.ofNat i))] [.int r]
  refine lj_aload_n (q := 884) dL_law_883 rfl (i := 2) rfl (pl := 2) rfl ?_
  refine lj_aload_n (q := 885) dL_law_884 rfl (i := 0) rfl (pl := 0) rfl ?_
  refine lj_iload_n (q := 886) dL_law_885 rfl (i := 3) rfl (pl := 3) rfl ?_
  refine lj_iconst (q := 887) (v := 1) dL_law_886 rfl (by decide) ?_
  refine lj_iadd (q := 888) dL_law_887 rfl ?_
  refine lj_sld (q := 889) (k := i + 1) (ofN_add i 1) (by omega) hL dL_law_888 rfl ?_
  refine lj_aload_n (q := 890) dL_law_889 rfl (i := 0) rfl (pl := 0) rfl ?_
  refine lj_iload_n (q := 891) dL_law_890 rfl (i := 3) rfl (pl := 3) rfl ?_
  refine lj_iconst (q := 892) (v := 2) dL_law_891 rfl (by decide) ?_
  refine lj_iadd (q := 893) dL_law_892 rfl ?_
  refine lj_sld (q := 894) (k := i + 2) (ofN_add i 2) (by omega) hL dL_law_893 rfl ?_
  refine lj_run (q := 897) (t := 233) (v := (r, σ2)) (As := [.int (xs (i + 1)), .int (xs (i + 2))]) (rest := [.int r]) wi_RL_102 (hM).s rfl (rX12_drift 233 (xs (i + 1)) (xs (i + 2)) hM) e2 rfl (by decide) (Nat.le_of_ble_eq_true rfl) dL_law_894 rfl ?_
  show Lj l D cA h0 ad b L xs sh P σ2 897 [(0, .ref b), (1, .ref (h0 + 0)), (2, .ref (h0 + 233)), (3, .int (Int32.ofNat i))] [.int r, .int r]
  refine lj_icmp_eqY (tgt := 1399) rfl dL_law_897 (by decide) ?_
  exact kk

set_option maxHeartbeats 4000000 in
theorem lc_20f {tw dr i : Nat} {r : Int32} {σ1 : St_} {σ2 : St_} (hL : L ≤ 3072) (hi : i + 5 < L) (hv : xs (i + 2) = 0) (hT : LY11 sh P 0 tw dr) (hM : LY12 sh P 233) (e1 : mX11_sums 0 tw dr (xs (i + 1)) false (xs (i + 3)) σ = some (r, σ1)) (e2 : mX12_sums 233 (xs (i + 1)) false (xs (i + 3)) σ1 = some (r, σ2)) (kk : Lj l D cA h0 ad b L xs sh P σ2 1399 [(0, .ref b), (1, .ref (h0 + 0)), (2, .ref (h0 + 233)), (3, .int (Int32.ofNat i))] []) : Lj l D cA h0 ad b L xs sh P σ 902 [(0, .ref b), (1, .ref (h0 + 0)), (2, .ref (h0 + 233)), (3, .int (Int32.ofNat i))] [] := by
  refine lj_aload_n (q := 903) dL_law_902 rfl (i := 1) rfl (pl := 1) rfl ?_
  refine lj_aload_n (q := 904) dL_law_903 rfl (i := 0) rfl (pl := 0) rfl ?_
  refine lj_iload_n (q := 905) dL_law_904 rfl (i := 3) rfl (pl := 3) rfl ?_
  refine lj_iconst (q := 906) (v := 1) dL_law_905 rfl (by decide) ?_
  refine lj_iadd (q := 907) dL_law_906 rfl ?_
  refine lj_sld (q := 908) (k := i + 1) (ofN_add i 1) (by omega) hL dL_law_907 rfl ?_
  refine lj_aload_n (q := 909) dL_law_908 rfl (i := 0) rfl (pl := 0) rfl ?_
  refine lj_iload_n (q := 910) dL_law_909 rfl (i := 3) rfl (pl := 3) rfl ?_
  refine lj_iconst (q := 911) (v := 2) dL_law_910 rfl (by decide) ?_
  refine lj_iadd (q := 912) dL_law_911 rfl ?_
  refine lj_sld (q := 913) (k := i + 2) (ofN_add i 2) (by omega) hL dL_law_912 rfl ?_
  refine lj_ifeqY (tgt := 920) hv dL_law_913 (by decide) ?_
  refine lj_iconst (q := 921) (v := 0) dL_law_920 rfl (by decide) ?_
  refine lj_aload_n (q := 922) dL_law_921 rfl (i := 0) rfl (pl := 0) rfl ?_
  refine lj_iload_n (q := 923) dL_law_922 rfl (i := 3) rfl (pl := 3) rfl ?_
  refine lj_iconst (q := 924) (v := 3) dL_law_923 rfl (by decide) ?_
  refine lj_iadd (q := 925) dL_law_924 rfl ?_
  refine lj_sld (q := 926) (k := i + 3) (ofN_add i 3) (by omega) hL dL_law_925 rfl ?_
  refine lj_run (q := 929) (t := 0) (v := (r, σ1)) (As := [.int (xs (i + 1)), .int 0, .int (xs (i + 3))]) (rest := []) wi_RL_103 (hT).s rfl (rX11_sums 0 tw dr (xs (i + 1)) false (xs (i + 3)) hT) e1 rfl (by decide) (Nat.le_of_ble_eq_true rfl) dL_law_926 rfl ?_
  show Lj l D cA h0 ad b L xs sh P σ1 929 [(0, .ref b), (1, .ref (h0 + 0)), (2, .ref (h0 + 233)), (3, .int (Int32.ofNat i))] [.int r]
  refine lj_aload_n (q := 930) dL_law_929 rfl (i := 2) rfl (pl := 2) rfl ?_
  refine lj_aload_n (q := 931) dL_law_930 rfl (i := 0) rfl (pl := 0) rfl ?_
  refine lj_iload_n (q := 932) dL_law_931 rfl (i := 3) rfl (pl := 3) rfl ?_
  refine lj_iconst (q := 933) (v := 1) dL_law_932 rfl (by decide) ?_
  refine lj_iadd (q := 934) dL_law_933 rfl ?_
  refine lj_sld (q := 935) (k := i + 1) (ofN_add i 1) (by omega) hL dL_law_934 rfl ?_
  refine lj_aload_n (q := 936) dL_law_935 rfl (i := 0) rfl (pl := 0) rfl ?_
  refine lj_iload_n (q := 937) dL_law_936 rfl (i := 3) rfl (pl := 3) rfl ?_
  refine lj_iconst (q := 938) (v := 2) dL_law_937 rfl (by decide) ?_
  refine lj_iadd (q := 939) dL_law_938 rfl ?_
  refine lj_sld (q := 940) (k := i + 2) (ofN_add i 2) (by omega) hL dL_law_939 rfl ?_
  refine lj_ifeqY (tgt := 947) hv dL_law_940 (by decide) ?_
  refine lj_iconst (q := 948) (v := 0) dL_law_947 rfl (by decide) ?_
  refine lj_aload_n (q := 949) dL_law_948 rfl (i := 0) rfl (pl := 0) rfl ?_
  refine lj_iload_n (q := 950) dL_law_949 rfl (i := 3) rfl (pl := 3) rfl ?_
  refine lj_iconst (q := 951) (v := 3) dL_law_950 rfl (by decide) ?_
  refine lj_iadd (q := 952) dL_law_951 rfl ?_
  refine lj_sld (q := 953) (k := i + 3) (ofN_add i 3) (by omega) hL dL_law_952 rfl ?_
  refine lj_run (q := 956) (t := 233) (v := (r, σ2)) (As := [.int (xs (i + 1)), .int 0, .int (xs (i + 3))]) (rest := [.int r]) wi_RL_107 (hM).s rfl (rX12_sums 233 (xs (i + 1)) false (xs (i + 3)) hM) e2 rfl (by decide) (Nat.le_of_ble_eq_true rfl) dL_law_953 rfl ?_
  show Lj l D cA h0 ad b L xs sh P σ2 956 [(0, .ref b), (1, .ref (h0 + 0)), (2, .ref (h0 + 233)), (3, .int (Int32.ofNat i))] [.int r, .int r]
  refine lj_icmp_eqY (tgt := 1399) rfl dL_law_956 (by decide) ?_
  exact kk

set_option maxHeartbeats 4000000 in
theorem lc_20t {tw dr i : Nat} {r : Int32} {σ1 : St_} {σ2 : St_} (hL : L ≤ 3072) (hi : i + 5 < L) (hv : ¬ xs (i + 2) = 0) (hT : LY11 sh P 0 tw dr) (hM : LY12 sh P 233) (e1 : mX11_sums 0 tw dr (xs (i + 1)) true (xs (i + 3)) σ = some (r, σ1)) (e2 : mX12_sums 233 (xs (i + 1)) true (xs (i + 3)) σ1 = some (r, σ2)) (kk : Lj l D cA h0 ad b L xs sh P σ2 1399 [(0, .ref b), (1, .ref (h0 + 0)), (2, .ref (h0 + 233)), (3, .int (Int32.ofNat i))] []) : Lj l D cA h0 ad b L xs sh P σ 902 [(0, .ref b), (1, .ref (h0 + 0)), (2, .ref (h0 + 233)), (3, .int (Int32.ofNat i))] [] := by
  refine lj_aload_n (q := 903) dL_law_902 rfl (i := 1) rfl (pl := 1) rfl ?_
  refine lj_aload_n (q := 904) dL_law_903 rfl (i := 0) rfl (pl := 0) rfl ?_
  refine lj_iload_n (q := 905) dL_law_904 rfl (i := 3) rfl (pl := 3) rfl ?_
  refine lj_iconst (q := 906) (v := 1) dL_law_905 rfl (by decide) ?_
  refine lj_iadd (q := 907) dL_law_906 rfl ?_
  refine lj_sld (q := 908) (k := i + 1) (ofN_add i 1) (by omega) hL dL_law_907 rfl ?_
  refine lj_aload_n (q := 909) dL_law_908 rfl (i := 0) rfl (pl := 0) rfl ?_
  refine lj_iload_n (q := 910) dL_law_909 rfl (i := 3) rfl (pl := 3) rfl ?_
  refine lj_iconst (q := 911) (v := 2) dL_law_910 rfl (by decide) ?_
  refine lj_iadd (q := 912) dL_law_911 rfl ?_
  refine lj_sld (q := 913) (k := i + 2) (ofN_add i 2) (by omega) hL dL_law_912 rfl ?_
  refine lj_ifeqN (tgt := 920) (q := 916) hv dL_law_913 (by decide) rfl ?_
  refine lj_iconst (q := 917) (v := 1) dL_law_916 rfl (by decide) ?_
  refine lj_goto (q := 921) dL_law_917 (by decide) ?_
  refine lj_aload_n (q := 922) dL_law_921 rfl (i := 0) rfl (pl := 0) rfl ?_
  refine lj_iload_n (q := 923) dL_law_922 rfl (i := 3) rfl (pl := 3) rfl ?_
  refine lj_iconst (q := 924) (v := 3) dL_law_923 rfl (by decide) ?_
  refine lj_iadd (q := 925) dL_law_924 rfl ?_
  refine lj_sld (q := 926) (k := i + 3) (ofN_add i 3) (by omega) hL dL_law_925 rfl ?_
  refine lj_run (q := 929) (t := 0) (v := (r, σ1)) (As := [.int (xs (i + 1)), .int 1, .int (xs (i + 3))]) (rest := []) wi_RL_103 (hT).s rfl (rX11_sums 0 tw dr (xs (i + 1)) true (xs (i + 3)) hT) e1 rfl (by decide) (Nat.le_of_ble_eq_true rfl) dL_law_926 rfl ?_
  show Lj l D cA h0 ad b L xs sh P σ1 929 [(0, .ref b), (1, .ref (h0 + 0)), (2, .ref (h0 + 233)), (3, .int (Int32.ofNat i))] [.int r]
  refine lj_aload_n (q := 930) dL_law_929 rfl (i := 2) rfl (pl := 2) rfl ?_
  refine lj_aload_n (q := 931) dL_law_930 rfl (i := 0) rfl (pl := 0) rfl ?_
  refine lj_iload_n (q := 932) dL_law_931 rfl (i := 3) rfl (pl := 3) rfl ?_
  refine lj_iconst (q := 933) (v := 1) dL_law_932 rfl (by decide) ?_
  refine lj_iadd (q := 934) dL_law_933 rfl ?_
  refine lj_sld (q := 935) (k := i + 1) (ofN_add i 1) (by omega) hL dL_law_934 rfl ?_
  refine lj_aload_n (q := 936) dL_law_935 rfl (i := 0) rfl (pl := 0) rfl ?_
  refine lj_iload_n (q := 937) dL_law_936 rfl (i := 3) rfl (pl := 3) rfl ?_
  refine lj_iconst (q := 938) (v := 2) dL_law_937 rfl (by decide) ?_
  refine lj_iadd (q := 939) dL_law_938 rfl ?_
  refine lj_sld (q := 940) (k := i + 2) (ofN_add i 2) (by omega) hL dL_law_939 rfl ?_
  refine lj_ifeqN (tgt := 947) (q := 943) hv dL_law_940 (by decide) rfl ?_
  refine lj_iconst (q := 944) (v := 1) dL_law_943 rfl (by decide) ?_
  refine lj_goto (q := 948) dL_law_944 (by decide) ?_
  refine lj_aload_n (q := 949) dL_law_948 rfl (i := 0) rfl (pl := 0) rfl ?_
  refine lj_iload_n (q := 950) dL_law_949 rfl (i := 3) rfl (pl := 3) rfl ?_
  refine lj_iconst (q := 951) (v := 3) dL_law_950 rfl (by decide) ?_
  refine lj_iadd (q := 952) dL_law_951 rfl ?_
  refine lj_sld (q := 953) (k := i + 3) (ofN_add i 3) (by omega) hL dL_law_952 rfl ?_
  refine lj_run (q := 956) (t := 233) (v := (r, σ2)) (As := [.int (xs (i + 1)), .int 1, .int (xs (i + 3))]) (rest := [.int r]) wi_RL_107 (hM).s rfl (rX12_sums 233 (xs (i + 1)) true (xs (i + 3)) hM) e2 rfl (by decide) (Nat.le_of_ble_eq_true rfl) dL_law_953 rfl ?_
  show Lj l D cA h0 ad b L xs sh P σ2 956 [(0, .ref b), (1, .ref (h0 + 0)), (2, .ref (h0 + 233)), (3, .int (Int32.ofNat i))] [.int r, .int r]
  refine lj_icmp_eqY (tgt := 1399) rfl dL_law_956 (by decide) ?_
  exact kk

set_option maxHeartbeats 4000000 in
theorem lc_21 {tw dr i : Nat} {r : Int32} {σ1 : St_} {σ2 : St_} (hL : L ≤ 3072) (hi : i + 5 < L) (hT : LY11 sh P 0 tw dr) (hM : LY12 sh P 233) (e1 : mX11_rests 0 tw dr σ = some (r, σ1)) (e2 : mX12_rests 233 σ1 = some (r, σ2)) (kk : Lj l D cA h0 ad b L xs sh P σ2 1399 [(0, .ref b), (1, .ref (h0 + 0)), (2, .ref (h0 + 233)), (3, .int (Int32.ofNat i))] []) : Lj l D cA h0 ad b L xs sh P σ 961 [(0, .ref b), (1, .ref (h0 + 0)), (2, .ref (h0 + 233)), (3, .int (Int32.ofNat i))] [] := by
  refine lj_aload_n (q := 962) dL_law_961 rfl (i := 1) rfl (pl := 1) rfl ?_
  refine lj_run (q := 965) (t := 0) (v := (r, σ1)) (As := []) (rest := []) wi_RL_108 (hT).s rfl (rX11_rests 0 tw dr  hT) e1 rfl (by decide) (Nat.le_of_ble_eq_true rfl) dL_law_962 rfl ?_
  show Lj l D cA h0 ad b L xs sh P σ1 965 [(0, .ref b), (1, .ref (h0 + 0)), (2, .ref (h0 + 233)), (3, .int (Int32.ofNat i))] [.int r]
  refine lj_aload_n (q := 966) dL_law_965 rfl (i := 2) rfl (pl := 2) rfl ?_
  refine lj_run (q := 969) (t := 233) (v := (r, σ2)) (As := []) (rest := [.int r]) wi_RL_111 (hM).s rfl (rX12_rests 233  hM) e2 rfl (by decide) (Nat.le_of_ble_eq_true rfl) dL_law_966 rfl ?_
  show Lj l D cA h0 ad b L xs sh P σ2 969 [(0, .ref b), (1, .ref (h0 + 0)), (2, .ref (h0 + 233)), (3, .int (Int32.ofNat i))] [.int r, .int r]
  refine lj_icmp_eqY (tgt := 1399) rfl dL_law_969 (by decide) ?_
  exact kk

set_option maxHeartbeats 4000000 in
theorem lc_22 {tw dr i : Nat} {r : Int32} {σ1 : St_} {σ2 : St_} (hL : L ≤ 3072) (hi : i + 5 < L) (hT : LY11 sh P 0 tw dr) (hM : LY12 sh P 233) (e1 : mX11_lie 0 tw dr (xs (i + 1)) (xs (i + 2)) (xs (i + 3)) σ = some (r, σ1)) (e2 : mX12_lie 233 (xs (i + 1)) (xs (i + 2)) (xs (i + 3)) σ1 = some (r, σ2)) (kk : Lj l D cA h0 ad b L xs sh P σ2 1399 [(0, .ref b), (1, .ref (h0 + 0)), (2, .ref (h0 + 233)), (3, .int (Int32.ofNat i))] []) : Lj l D cA h0 ad b L xs sh P σ 974 [(0, .ref b), (1, .ref (h0 + 0)), (2, .ref (h0 + 233)), (3, .int (Int32.ofNat i))] [] := by
  refine lj_aload_n (q := 975) dL_law_974 rfl (i := 1) rfl (pl := 1) rfl ?_
  refine lj_aload_n (q := 976) dL_law_975 rfl (i := 0) rfl (pl := 0) rfl ?_
  refine lj_iload_n (q := 977) dL_law_976 rfl (i := 3) rfl (pl := 3) rfl ?_
  refine lj_iconst (q := 978) (v := 1) dL_law_977 rfl (by decide) ?_
  refine lj_iadd (q := 979) dL_law_978 rfl ?_
  refine lj_sld (q := 980) (k := i + 1) (ofN_add i 1) (by omega) hL dL_law_979 rfl ?_
  refine lj_aload_n (q := 981) dL_law_980 rfl (i := 0) rfl (pl := 0) rfl ?_
  refine lj_iload_n (q := 982) dL_law_981 rfl (i := 3) rfl (pl := 3) rfl ?_
  refine lj_iconst (q := 983) (v := 2) dL_law_982 rfl (by decide) ?_
  refine lj_iadd (q := 984) dL_law_983 rfl ?_
  refine lj_sld (q := 985) (k := i + 2) (ofN_add i 2) (by omega) hL dL_law_984 rfl ?_
  refine lj_aload_n (q := 986) dL_law_985 rfl (i := 0) rfl (pl := 0) rfl ?_
  refine lj_iload_n (q := 987) dL_law_986 rfl (i := 3) rfl (pl := 3) rfl ?_
  refine lj_iconst (q := 988) (v := 3) dL_law_987 rfl (by decide) ?_
  refine lj_iadd (q := 989) dL_law_988 rfl ?_
  refine lj_sld (q := 990) (k := i + 3) (ofN_add i 3) (by omega) hL dL_law_989 rfl ?_
  refine lj_run (q := 993) (t := 0) (v := (r, σ1)) (As := [.int (xs (i + 1)), .int (xs (i + 2)), .int (xs (i + 3))]) (rest := []) wi_RL_112 (hT).s rfl (rX11_lie 0 tw dr (xs (i + 1)) (xs (i + 2)) (xs (i + 3)) hT) e1 rfl (by decide) (Nat.le_of_ble_eq_true rfl) dL_law_990 rfl ?_
  show Lj l D cA h0 ad b L xs sh P σ1 993 [(0, .ref b), (1, .ref (h0 + 0)), (2, .ref (h0 + 233)), (3, .int (Int32.ofNat i))] [.int r]
  refine lj_aload_n (q := 994) dL_law_993 rfl (i := 2) rfl (pl := 2) rfl ?_
  refine lj_aload_n (q := 995) dL_law_994 rfl (i := 0) rfl (pl := 0) rfl ?_
  refine lj_iload_n (q := 996) dL_law_995 rfl (i := 3) rfl (pl := 3) rfl ?_
  refine lj_iconst (q := 997) (v := 1) dL_law_996 rfl (by decide) ?_
  refine lj_iadd (q := 998) dL_law_997 rfl ?_
  refine lj_sld (q := 999) (k := i + 1) (ofN_add i 1) (by omega) hL dL_law_998 rfl ?_
  refine lj_aload_n (q := 1000) dL_law_999 rfl (i := 0) rfl (pl := 0) rfl ?_
  refine lj_iload_n (q := 1001) dL_law_1000 rfl (i := 3) rfl (pl := 3) rfl ?_
  refine lj_iconst (q := 1002) (v := 2) dL_law_1001 rfl (by decide) ?_
  refine lj_iadd (q := 1003) dL_law_1002 rfl ?_
  refine lj_sld (q := 1004) (k := i + 2) (ofN_add i 2) (by omega) hL dL_law_1003 rfl ?_
  refine lj_aload_n (q := 1005) dL_law_1004 rfl (i := 0) rfl (pl := 0) rfl ?_
  refine lj_iload_n (q := 1006) dL_law_1005 rfl (i := 3) rfl (pl := 3) rfl ?_
  refine lj_iconst (q := 1007) (v := 3) dL_law_1006 rfl (by decide) ?_
  refine lj_iadd (q := 1008) dL_law_1007 rfl ?_
  refine lj_sld (q := 1009) (k := i + 3) (ofN_add i 3) (by omega) hL dL_law_1008 rfl ?_
  refine lj_run (q := 1012) (t := 233) (v := (r, σ2)) (As := [.int (xs (i + 1)), .int (xs (i + 2)), .int (xs (i + 3))]) (rest := [.int r]) wi_RL_115 (hM).s rfl (rX12_lie 233 (xs (i + 1)) (xs (i + 2)) (xs (i + 3)) hM) e2 rfl (by decide) (Nat.le_of_ble_eq_true rfl) dL_law_1009 rfl ?_
  show Lj l D cA h0 ad b L xs sh P σ2 1012 [(0, .ref b), (1, .ref (h0 + 0)), (2, .ref (h0 + 233)), (3, .int (Int32.ofNat i))] [.int r, .int r]
  refine lj_icmp_eqY (tgt := 1399) rfl dL_law_1012 (by decide) ?_
  exact kk

set_option maxHeartbeats 4000000 in
theorem lc_23 {tw dr i : Nat} {r : Int32} {σ1 : St_} {σ2 : St_} (hL : L ≤ 3072) (hi : i + 5 < L) (hT : LY11 sh P 0 tw dr) (hM : LY12 sh P 233) (e1 : mX11_unbettered 0 tw dr (xs (i + 1)) σ = some (r, σ1)) (e2 : mX12_unbettered 233 (xs (i + 1)) σ1 = some (r, σ2)) (kk : Lj l D cA h0 ad b L xs sh P σ2 1399 [(0, .ref b), (1, .ref (h0 + 0)), (2, .ref (h0 + 233)), (3, .int (Int32.ofNat i))] []) : Lj l D cA h0 ad b L xs sh P σ 1017 [(0, .ref b), (1, .ref (h0 + 0)), (2, .ref (h0 + 233)), (3, .int (Int32.ofNat i))] [] := by
  refine lj_aload_n (q := 1018) dL_law_1017 rfl (i := 1) rfl (pl := 1) rfl ?_
  refine lj_aload_n (q := 1019) dL_law_1018 rfl (i := 0) rfl (pl := 0) rfl ?_
  refine lj_iload_n (q := 1020) dL_law_1019 rfl (i := 3) rfl (pl := 3) rfl ?_
  refine lj_iconst (q := 1021) (v := 1) dL_law_1020 rfl (by decide) ?_
  refine lj_iadd (q := 1022) dL_law_1021 rfl ?_
  refine lj_sld (q := 1023) (k := i + 1) (ofN_add i 1) (by omega) hL dL_law_1022 rfl ?_
  refine lj_run (q := 1026) (t := 0) (v := (r, σ1)) (As := [.int (xs (i + 1))]) (rest := []) wi_RL_116 (hT).s rfl (rX11_unbettered 0 tw dr (xs (i + 1)) hT) e1 rfl (by decide) (Nat.le_of_ble_eq_true rfl) dL_law_1023 rfl ?_
  show Lj l D cA h0 ad b L xs sh P σ1 1026 [(0, .ref b), (1, .ref (h0 + 0)), (2, .ref (h0 + 233)), (3, .int (Int32.ofNat i))] [.int r]
  refine lj_aload_n (q := 1027) dL_law_1026 rfl (i := 2) rfl (pl := 2) rfl ?_
  refine lj_aload_n (q := 1028) dL_law_1027 rfl (i := 0) rfl (pl := 0) rfl ?_
  refine lj_iload_n (q := 1029) dL_law_1028 rfl (i := 3) rfl (pl := 3) rfl ?_
  refine lj_iconst (q := 1030) (v := 1) dL_law_1029 rfl (by decide) ?_
  refine lj_iadd (q := 1031) dL_law_1030 rfl ?_
  refine lj_sld (q := 1032) (k := i + 1) (ofN_add i 1) (by omega) hL dL_law_1031 rfl ?_
  refine lj_run (q := 1035) (t := 233) (v := (r, σ2)) (As := [.int (xs (i + 1))]) (rest := [.int r]) wi_RL_119 (hM).s rfl (rX12_unbettered 233 (xs (i + 1)) hM) e2 rfl (by decide) (Nat.le_of_ble_eq_true rfl) dL_law_1032 rfl ?_
  show Lj l D cA h0 ad b L xs sh P σ2 1035 [(0, .ref b), (1, .ref (h0 + 0)), (2, .ref (h0 + 233)), (3, .int (Int32.ofNat i))] [.int r, .int r]
  refine lj_icmp_eqY (tgt := 1399) rfl dL_law_1035 (by decide) ?_
  exact kk

set_option maxHeartbeats 4000000 in
theorem lc_24 {tw dr i : Nat} {r : Int32} {σ1 : St_} {σ2 : St_} (hL : L ≤ 3072) (hi : i + 5 < L) (hT : LY11 sh P 0 tw dr) (hM : LY12 sh P 233) (e1 : mX11_loopholes 0 tw dr σ = some (r, σ1)) (e2 : mX12_loopholes 233 σ1 = some (r, σ2)) (kk : Lj l D cA h0 ad b L xs sh P σ2 1399 [(0, .ref b), (1, .ref (h0 + 0)), (2, .ref (h0 + 233)), (3, .int (Int32.ofNat i))] []) : Lj l D cA h0 ad b L xs sh P σ 1040 [(0, .ref b), (1, .ref (h0 + 0)), (2, .ref (h0 + 233)), (3, .int (Int32.ofNat i))] [] := by
  refine lj_aload_n (q := 1041) dL_law_1040 rfl (i := 1) rfl (pl := 1) rfl ?_
  refine lj_run (q := 1044) (t := 0) (v := (r, σ1)) (As := []) (rest := []) wi_RL_120 (hT).s rfl (rX11_loopholes 0 tw dr  hT) e1 rfl (by decide) (Nat.le_of_ble_eq_true rfl) dL_law_1041 rfl ?_
  show Lj l D cA h0 ad b L xs sh P σ1 1044 [(0, .ref b), (1, .ref (h0 + 0)), (2, .ref (h0 + 233)), (3, .int (Int32.ofNat i))] [.int r]
  refine lj_aload_n (q := 1045) dL_law_1044 rfl (i := 2) rfl (pl := 2) rfl ?_
  refine lj_run (q := 1048) (t := 233) (v := (r, σ2)) (As := []) (rest := [.int r]) wi_RL_123 (hM).s rfl (rX12_loopholes 233  hM) e2 rfl (by decide) (Nat.le_of_ble_eq_true rfl) dL_law_1045 rfl ?_
  show Lj l D cA h0 ad b L xs sh P σ2 1048 [(0, .ref b), (1, .ref (h0 + 0)), (2, .ref (h0 + 233)), (3, .int (Int32.ofNat i))] [.int r, .int r]
  refine lj_icmp_eqY (tgt := 1399) rfl dL_law_1048 (by decide) ?_
  exact kk

set_option maxHeartbeats 4000000 in
theorem lc_25 {tw dr i : Nat} {r : Int32} {σ1 : St_} {σ2 : St_} (hL : L ≤ 3072) (hi : i + 5 < L) (hT : LY11 sh P 0 tw dr) (hM : LY12 sh P 233) (e1 : mX11_who 0 tw dr (xs (i + 1)) σ = some (r, σ1)) (e2 : mX12_who 233 (xs (i + 1)) σ1 = some (r, σ2)) (kk : Lj l D cA h0 ad b L xs sh P σ2 1399 [(0, .ref b), (1, .ref (h0 + 0)), (2, .ref (h0 + 233)), (3, .int (Int32.ofNat i))] []) : Lj l D cA h0 ad b L xs sh P σ 1053 [(0, .ref b), (1, .ref (h0 + 0)), (2, .ref (h0 + 233)), (3, .int (Int32.ofNat i))] [] := by
  refine lj_aload_n (q := 1054) dL_law_1053 rfl (i := 1) rfl (pl := 1) rfl ?_
  refine lj_aload_n (q := 1055) dL_law_1054 rfl (i := 0) rfl (pl := 0) rfl ?_
  refine lj_iload_n (q := 1056) dL_law_1055 rfl (i := 3) rfl (pl := 3) rfl ?_
  refine lj_iconst (q := 1057) (v := 1) dL_law_1056 rfl (by decide) ?_
  refine lj_iadd (q := 1058) dL_law_1057 rfl ?_
  refine lj_sld (q := 1059) (k := i + 1) (ofN_add i 1) (by omega) hL dL_law_1058 rfl ?_
  refine lj_run (q := 1062) (t := 0) (v := (r, σ1)) (As := [.int (xs (i + 1))]) (rest := []) wi_RL_124 (hT).s rfl (rX11_who 0 tw dr (xs (i + 1)) hT) e1 rfl (by decide) (Nat.le_of_ble_eq_true rfl) dL_law_1059 rfl ?_
  show Lj l D cA h0 ad b L xs sh P σ1 1062 [(0, .ref b), (1, .ref (h0 + 0)), (2, .ref (h0 + 233)), (3, .int (Int32.ofNat i))] [.int r]
  refine lj_aload_n (q := 1063) dL_law_1062 rfl (i := 2) rfl (pl := 2) rfl ?_
  refine lj_aload_n (q := 1064) dL_law_1063 rfl (i := 0) rfl (pl := 0) rfl ?_
  refine lj_iload_n (q := 1065) dL_law_1064 rfl (i := 3) rfl (pl := 3) rfl ?_
  refine lj_iconst (q := 1066) (v := 1) dL_law_1065 rfl (by decide) ?_
  refine lj_iadd (q := 1067) dL_law_1066 rfl ?_
  refine lj_sld (q := 1068) (k := i + 1) (ofN_add i 1) (by omega) hL dL_law_1067 rfl ?_
  refine lj_run (q := 1071) (t := 233) (v := (r, σ2)) (As := [.int (xs (i + 1))]) (rest := [.int r]) wi_RL_127 (hM).s rfl (rX12_who 233 (xs (i + 1)) hM) e2 rfl (by decide) (Nat.le_of_ble_eq_true rfl) dL_law_1068 rfl ?_
  show Lj l D cA h0 ad b L xs sh P σ2 1071 [(0, .ref b), (1, .ref (h0 + 0)), (2, .ref (h0 + 233)), (3, .int (Int32.ofNat i))] [.int r, .int r]
  refine lj_icmp_eqY (tgt := 1399) rfl dL_law_1071 (by decide) ?_
  exact kk

set_option maxHeartbeats 4000000 in
theorem lc_26 {tw dr i : Nat} {r : Int32} (hL : L ≤ 3072) (hi : i + 5 < L) (hT : LY11 sh P 0 tw dr) (hM : LY12 sh P 233) (e1 : mX11_lies 0 tw dr (xs (i + 1)) σ = some r) (e2 : mX12_lies 233 (xs (i + 1)) σ = some r) (kk : Lj l D cA h0 ad b L xs sh P σ 1399 [(0, .ref b), (1, .ref (h0 + 0)), (2, .ref (h0 + 233)), (3, .int (Int32.ofNat i))] []) : Lj l D cA h0 ad b L xs sh P σ 1076 [(0, .ref b), (1, .ref (h0 + 0)), (2, .ref (h0 + 233)), (3, .int (Int32.ofNat i))] [] := by
  refine lj_aload_n (q := 1077) dL_law_1076 rfl (i := 1) rfl (pl := 1) rfl ?_
  refine lj_aload_n (q := 1078) dL_law_1077 rfl (i := 0) rfl (pl := 0) rfl ?_
  refine lj_iload_n (q := 1079) dL_law_1078 rfl (i := 3) rfl (pl := 3) rfl ?_
  refine lj_iconst (q := 1080) (v := 1) dL_law_1079 rfl (by decide) ?_
  refine lj_iadd (q := 1081) dL_law_1080 rfl ?_
  refine lj_sld (q := 1082) (k := i + 1) (ofN_add i 1) (by omega) hL dL_law_1081 rfl ?_
  refine lj_run (q := 1085) (t := 0) (v := r) (As := [.int (xs (i + 1))]) (rest := []) wi_RL_128 (hT).s rfl (rX11_lies 0 tw dr (xs (i + 1)) hT) e1 rfl (by decide) (Nat.le_of_ble_eq_true rfl) dL_law_1082 rfl ?_
  show Lj l D cA h0 ad b L xs sh P σ 1085 [(0, .ref b), (1, .ref (h0 + 0)), (2, .ref (h0 + 233)), (3, .int (Int32.ofNat i))] [.int r]
  refine lj_aload_n (q := 1086) dL_law_1085 rfl (i := 2) rfl (pl := 2) rfl ?_
  refine lj_aload_n (q := 1087) dL_law_1086 rfl (i := 0) rfl (pl := 0) rfl ?_
  refine lj_iload_n (q := 1088) dL_law_1087 rfl (i := 3) rfl (pl := 3) rfl ?_
  refine lj_iconst (q := 1089) (v := 1) dL_law_1088 rfl (by decide) ?_
  refine lj_iadd (q := 1090) dL_law_1089 rfl ?_
  refine lj_sld (q := 1091) (k := i + 1) (ofN_add i 1) (by omega) hL dL_law_1090 rfl ?_
  refine lj_run (q := 1094) (t := 233) (v := r) (As := [.int (xs (i + 1))]) (rest := [.int r]) wi_RL_131 (hM).s rfl (rX12_lies 233 (xs (i + 1)) hM) e2 rfl (by decide) (Nat.le_of_ble_eq_true rfl) dL_law_1091 rfl ?_
  show Lj l D cA h0 ad b L xs sh P σ 1094 [(0, .ref b), (1, .ref (h0 + 0)), (2, .ref (h0 + 233)), (3, .int (Int32.ofNat i))] [.int r, .int r]
  refine lj_icmp_eqY (tgt := 1399) rfl dL_law_1094 (by decide) ?_
  exact kk

set_option maxHeartbeats 4000000 in
theorem lc_27f {tw dr i : Nat} {r : Int32} {σ1 : St_} {σ2 : St_} (hL : L ≤ 3072) (hi : i + 5 < L) (hv : xs (i + 5) = 0) (hT : LY11 sh P 0 tw dr) (hM : LY12 sh P 233) (e1 : mX11_report 0 tw dr (xs (i + 1)) (xs (i + 2)) (xs (i + 3)) (xs (i + 4)) false σ = some (r, σ1)) (e2 : mX12_report 233 (xs (i + 1)) (xs (i + 2)) (xs (i + 3)) (xs (i + 4)) false σ1 = some (r, σ2)) (kk : Lj l D cA h0 ad b L xs sh P σ2 1399 [(0, .ref b), (1, .ref (h0 + 0)), (2, .ref (h0 + 233)), (3, .int (Int32.ofNat i))] []) : Lj l D cA h0 ad b L xs sh P σ 1099 [(0, .ref b), (1, .ref (h0 + 0)), (2, .ref (h0 + 233)), (3, .int (Int32.ofNat i))] [] := by
  refine lj_aload_n (q := 1100) dL_law_1099 rfl (i := 1) rfl (pl := 1) rfl ?_
  refine lj_aload_n (q := 1101) dL_law_1100 rfl (i := 0) rfl (pl := 0) rfl ?_
  refine lj_iload_n (q := 1102) dL_law_1101 rfl (i := 3) rfl (pl := 3) rfl ?_
  refine lj_iconst (q := 1103) (v := 1) dL_law_1102 rfl (by decide) ?_
  refine lj_iadd (q := 1104) dL_law_1103 rfl ?_
  refine lj_sld (q := 1105) (k := i + 1) (ofN_add i 1) (by omega) hL dL_law_1104 rfl ?_
  refine lj_aload_n (q := 1106) dL_law_1105 rfl (i := 0) rfl (pl := 0) rfl ?_
  refine lj_iload_n (q := 1107) dL_law_1106 rfl (i := 3) rfl (pl := 3) rfl ?_
  refine lj_iconst (q := 1108) (v := 2) dL_law_1107 rfl (by decide) ?_
  refine lj_iadd (q := 1109) dL_law_1108 rfl ?_
  refine lj_sld (q := 1110) (k := i + 2) (ofN_add i 2) (by omega) hL dL_law_1109 rfl ?_
  refine lj_aload_n (q := 1111) dL_law_1110 rfl (i := 0) rfl (pl := 0) rfl ?_
  refine lj_iload_n (q := 1112) dL_law_1111 rfl (i := 3) rfl (pl := 3) rfl ?_
  refine lj_iconst (q := 1113) (v := 3) dL_law_1112 rfl (by decide) ?_
  refine lj_iadd (q := 1114) dL_law_1113 rfl ?_
  refine lj_sld (q := 1115) (k := i + 3) (ofN_add i 3) (by omega) hL dL_law_1114 rfl ?_
  refine lj_aload_n (q := 1116) dL_law_1115 rfl (i := 0) rfl (pl := 0) rfl ?_
  refine lj_iload_n (q := 1117) dL_law_1116 rfl (i := 3) rfl (pl := 3) rfl ?_
  refine lj_iconst (q := 1118) (v := 4) dL_law_1117 rfl (by decide) ?_
  refine lj_iadd (q := 1119) dL_law_1118 rfl ?_
  refine lj_sld (q := 1120) (k := i + 4) (ofN_add i 4) (by omega) hL dL_law_1119 rfl ?_
  refine lj_aload_n (q := 1121) dL_law_1120 rfl (i := 0) rfl (pl := 0) rfl ?_
  refine lj_iload_n (q := 1122) dL_law_1121 rfl (i := 3) rfl (pl := 3) rfl ?_
  refine lj_iconst (q := 1123) (v := 5) dL_law_1122 rfl (by decide) ?_
  refine lj_iadd (q := 1124) dL_law_1123 rfl ?_
  refine lj_sld (q := 1125) (k := i + 5) (ofN_add i 5) (by omega) hL dL_law_1124 rfl ?_
  refine lj_ifeqY (tgt := 1132) hv dL_law_1125 (by decide) ?_
  refine lj_iconst (q := 1133) (v := 0) dL_law_1132 rfl (by decide) ?_
  refine lj_run (q := 1136) (t := 0) (v := (r, σ1)) (As := [.int (xs (i + 1)), .int (xs (i + 2)), .int (xs (i + 3)), .int (xs (i + 4)), .int 0]) (rest := []) wi_RL_132 (hT).s rfl (rX11_report 0 tw dr (xs (i + 1)) (xs (i + 2)) (xs (i + 3)) (xs (i + 4)) false hT) e1 rfl (by decide) (Nat.le_of_ble_eq_true rfl) dL_law_1133 rfl ?_
  show Lj l D cA h0 ad b L xs sh P σ1 1136 [(0, .ref b), (1, .ref (h0 + 0)), (2, .ref (h0 + 233)), (3, .int (Int32.ofNat i))] [.int r]
  refine lj_aload_n (q := 1137) dL_law_1136 rfl (i := 2) rfl (pl := 2) rfl ?_
  refine lj_aload_n (q := 1138) dL_law_1137 rfl (i := 0) rfl (pl := 0) rfl ?_
  refine lj_iload_n (q := 1139) dL_law_1138 rfl (i := 3) rfl (pl := 3) rfl ?_
  refine lj_iconst (q := 1140) (v := 1) dL_law_1139 rfl (by decide) ?_
  refine lj_iadd (q := 1141) dL_law_1140 rfl ?_
  refine lj_sld (q := 1142) (k := i + 1) (ofN_add i 1) (by omega) hL dL_law_1141 rfl ?_
  refine lj_aload_n (q := 1143) dL_law_1142 rfl (i := 0) rfl (pl := 0) rfl ?_
  refine lj_iload_n (q := 1144) dL_law_1143 rfl (i := 3) rfl (pl := 3) rfl ?_
  refine lj_iconst (q := 1145) (v := 2) dL_law_1144 rfl (by decide) ?_
  refine lj_iadd (q := 1146) dL_law_1145 rfl ?_
  refine lj_sld (q := 1147) (k := i + 2) (ofN_add i 2) (by omega) hL dL_law_1146 rfl ?_
  refine lj_aload_n (q := 1148) dL_law_1147 rfl (i := 0) rfl (pl := 0) rfl ?_
  refine lj_iload_n (q := 1149) dL_law_1148 rfl (i := 3) rfl (pl := 3) rfl ?_
  refine lj_iconst (q := 1150) (v := 3) dL_law_1149 rfl (by decide) ?_
  refine lj_iadd (q := 1151) dL_law_1150 rfl ?_
  refine lj_sld (q := 1152) (k := i + 3) (ofN_add i 3) (by omega) hL dL_law_1151 rfl ?_
  refine lj_aload_n (q := 1153) dL_law_1152 rfl (i := 0) rfl (pl := 0) rfl ?_
  refine lj_iload_n (q := 1154) dL_law_1153 rfl (i := 3) rfl (pl := 3) rfl ?_
  refine lj_iconst (q := 1155) (v := 4) dL_law_1154 rfl (by decide) ?_
  refine lj_iadd (q := 1156) dL_law_1155 rfl ?_
  refine lj_sld (q := 1157) (k := i + 4) (ofN_add i 4) (by omega) hL dL_law_1156 rfl ?_
  refine lj_aload_n (q := 1158) dL_law_1157 rfl (i := 0) rfl (pl := 0) rfl ?_
  refine lj_iload_n (q := 1159) dL_law_1158 rfl (i := 3) rfl (pl := 3) rfl ?_
  refine lj_iconst (q := 1160) (v := 5) dL_law_1159 rfl (by decide) ?_
  refine lj_iadd (q := 1161) dL_law_1160 rfl ?_
  refine lj_sld (q := 1162) (k := i + 5) (ofN_add i 5) (by omega) hL dL_law_1161 rfl ?_
  refine lj_ifeqY (tgt := 1169) hv dL_law_1162 (by decide) ?_
  refine lj_iconst (q := 1170) (v := 0) dL_law_1169 rfl (by decide) ?_
  refine lj_run (q := 1173) (t := 233) (v := (r, σ2)) (As := [.int (xs (i + 1)), .int (xs (i + 2)), .int (xs (i + 3)), .int (xs (i + 4)), .int 0]) (rest := [.int r]) wi_RL_136 (hM).s rfl (rX12_report 233 (xs (i + 1)) (xs (i + 2)) (xs (i + 3)) (xs (i + 4)) false hM) e2 rfl (by decide) (Nat.le_of_ble_eq_true rfl) dL_law_1170 rfl ?_
  show Lj l D cA h0 ad b L xs sh P σ2 1173 [(0, .ref b), (1, .ref (h0 + 0)), (2, .ref (h0 + 233)), (3, .int (Int32.ofNat i))] [.int r, .int r]
  refine lj_icmp_eqY (tgt := 1399) rfl dL_law_1173 (by decide) ?_
  exact kk

set_option maxHeartbeats 4000000 in
theorem lc_27t {tw dr i : Nat} {r : Int32} {σ1 : St_} {σ2 : St_} (hL : L ≤ 3072) (hi : i + 5 < L) (hv : ¬ xs (i + 5) = 0) (hT : LY11 sh P 0 tw dr) (hM : LY12 sh P 233) (e1 : mX11_report 0 tw dr (xs (i + 1)) (xs (i + 2)) (xs (i + 3)) (xs (i + 4)) true σ = some (r, σ1)) (e2 : mX12_report 233 (xs (i + 1)) (xs (i + 2)) (xs (i + 3)) (xs (i + 4)) true σ1 = some (r, σ2)) (kk : Lj l D cA h0 ad b L xs sh P σ2 1399 [(0, .ref b), (1, .ref (h0 + 0)), (2, .ref (h0 + 233)), (3, .int (Int32.ofNat i))] []) : Lj l D cA h0 ad b L xs sh P σ 1099 [(0, .ref b), (1, .ref (h0 + 0)), (2, .ref (h0 + 233)), (3, .int (Int32.ofNat i))] [] := by
  refine lj_aload_n (q := 1100) dL_law_1099 rfl (i := 1) rfl (pl := 1) rfl ?_
  refine lj_aload_n (q := 1101) dL_law_1100 rfl (i := 0) rfl (pl := 0) rfl ?_
  refine lj_iload_n (q := 1102) dL_law_1101 rfl (i := 3) rfl (pl := 3) rfl ?_
  refine lj_iconst (q := 1103) (v := 1) dL_law_1102 rfl (by decide) ?_
  refine lj_iadd (q := 1104) dL_law_1103 rfl ?_
  refine lj_sld (q := 1105) (k := i + 1) (ofN_add i 1) (by omega) hL dL_law_1104 rfl ?_
  refine lj_aload_n (q := 1106) dL_law_1105 rfl (i := 0) rfl (pl := 0) rfl ?_
  refine lj_iload_n (q := 1107) dL_law_1106 rfl (i := 3) rfl (pl := 3) rfl ?_
  refine lj_iconst (q := 1108) (v := 2) dL_law_1107 rfl (by decide) ?_
  refine lj_iadd (q := 1109) dL_law_1108 rfl ?_
  refine lj_sld (q := 1110) (k := i + 2) (ofN_add i 2) (by omega) hL dL_law_1109 rfl ?_
  refine lj_aload_n (q := 1111) dL_law_1110 rfl (i := 0) rfl (pl := 0) rfl ?_
  refine lj_iload_n (q := 1112) dL_law_1111 rfl (i := 3) rfl (pl := 3) rfl ?_
  refine lj_iconst (q := 1113) (v := 3) dL_law_1112 rfl (by decide) ?_
  refine lj_iadd (q := 1114) dL_law_1113 rfl ?_
  refine lj_sld (q := 1115) (k := i + 3) (ofN_add i 3) (by omega) hL dL_law_1114 rfl ?_
  refine lj_aload_n (q := 1116) dL_law_1115 rfl (i := 0) rfl (pl := 0) rfl ?_
  refine lj_iload_n (q := 1117) dL_law_1116 rfl (i := 3) rfl (pl := 3) rfl ?_
  refine lj_iconst (q := 1118) (v := 4) dL_law_1117 rfl (by decide) ?_
  refine lj_iadd (q := 1119) dL_law_1118 rfl ?_
  refine lj_sld (q := 1120) (k := i + 4) (ofN_add i 4) (by omega) hL dL_law_1119 rfl ?_
  refine lj_aload_n (q := 1121) dL_law_1120 rfl (i := 0) rfl (pl := 0) rfl ?_
  refine lj_iload_n (q := 1122) dL_law_1121 rfl (i := 3) rfl (pl := 3) rfl ?_
  refine lj_iconst (q := 1123) (v := 5) dL_law_1122 rfl (by decide) ?_
  refine lj_iadd (q := 1124) dL_law_1123 rfl ?_
  refine lj_sld (q := 1125) (k := i + 5) (ofN_add i 5) (by omega) hL dL_law_1124 rfl ?_
  refine lj_ifeqN (tgt := 1132) (q := 1128) hv dL_law_1125 (by decide) rfl ?_
  refine lj_iconst (q := 1129) (v := 1) dL_law_1128 rfl (by decide) ?_
  refine lj_goto (q := 1133) dL_law_1129 (by decide) ?_
  refine lj_run (q := 1136) (t := 0) (v := (r, σ1)) (As := [.int (xs (i + 1)), .int (xs (i + 2)), .int (xs (i + 3)), .int (xs (i + 4)), .int 1]) (rest := []) wi_RL_132 (hT).s rfl (rX11_report 0 tw dr (xs (i + 1)) (xs (i + 2)) (xs (i + 3)) (xs (i + 4)) true hT) e1 rfl (by decide) (Nat.le_of_ble_eq_true rfl) dL_law_1133 rfl ?_
  show Lj l D cA h0 ad b L xs sh P σ1 1136 [(0, .ref b), (1, .ref (h0 + 0)), (2, .ref (h0 + 233)), (3, .int (Int32.ofNat i))] [.int r]
  refine lj_aload_n (q := 1137) dL_law_1136 rfl (i := 2) rfl (pl := 2) rfl ?_
  refine lj_aload_n (q := 1138) dL_law_1137 rfl (i := 0) rfl (pl := 0) rfl ?_
  refine lj_iload_n (q := 1139) dL_law_1138 rfl (i := 3) rfl (pl := 3) rfl ?_
  refine lj_iconst (q := 1140) (v := 1) dL_law_1139 rfl (by decide) ?_
  refine lj_iadd (q := 1141) dL_law_1140 rfl ?_
  refine lj_sld (q := 1142) (k := i + 1) (ofN_add i 1) (by omega) hL dL_law_1141 rfl ?_
  refine lj_aload_n (q := 1143) dL_law_1142 rfl (i := 0) rfl (pl := 0) rfl ?_
  refine lj_iload_n (q := 1144) dL_law_1143 rfl (i := 3) rfl (pl := 3) rfl ?_
  refine lj_iconst (q := 1145) (v := 2) dL_law_1144 rfl (by decide) ?_
  refine lj_iadd (q := 1146) dL_law_1145 rfl ?_
  refine lj_sld (q := 1147) (k := i + 2) (ofN_add i 2) (by omega) hL dL_law_1146 rfl ?_
  refine lj_aload_n (q := 1148) dL_law_1147 rfl (i := 0) rfl (pl := 0) rfl ?_
  refine lj_iload_n (q := 1149) dL_law_1148 rfl (i := 3) rfl (pl := 3) rfl ?_
  refine lj_iconst (q := 1150) (v := 3) dL_law_1149 rfl (by decide) ?_
  refine lj_iadd (q := 1151) dL_law_1150 rfl ?_
  refine lj_sld (q := 1152) (k := i + 3) (ofN_add i 3) (by omega) hL dL_law_1151 rfl ?_
  refine lj_aload_n (q := 1153) dL_law_1152 rfl (i := 0) rfl (pl := 0) rfl ?_
  refine lj_iload_n (q := 1154) dL_law_1153 rfl (i := 3) rfl (pl := 3) rfl ?_
  refine lj_iconst (q := 1155) (v := 4) dL_law_1154 rfl (by decide) ?_
  refine lj_iadd (q := 1156) dL_law_1155 rfl ?_
  refine lj_sld (q := 1157) (k := i + 4) (ofN_add i 4) (by omega) hL dL_law_1156 rfl ?_
  refine lj_aload_n (q := 1158) dL_law_1157 rfl (i := 0) rfl (pl := 0) rfl ?_
  refine lj_iload_n (q := 1159) dL_law_1158 rfl (i := 3) rfl (pl := 3) rfl ?_
  refine lj_iconst (q := 1160) (v := 5) dL_law_1159 rfl (by decide) ?_
  refine lj_iadd (q := 1161) dL_law_1160 rfl ?_
  refine lj_sld (q := 1162) (k := i + 5) (ofN_add i 5) (by omega) hL dL_law_1161 rfl ?_
  refine lj_ifeqN (tgt := 1169) (q := 1165) hv dL_law_1162 (by decide) rfl ?_
  refine lj_iconst (q := 1166) (v := 1) dL_law_1165 rfl (by decide) ?_
  refine lj_goto (q := 1170) dL_law_1166 (by decide) ?_
  refine lj_run (q := 1173) (t := 233) (v := (r, σ2)) (As := [.int (xs (i + 1)), .int (xs (i + 2)), .int (xs (i + 3)), .int (xs (i + 4)), .int 1]) (rest := [.int r]) wi_RL_136 (hM).s rfl (rX12_report 233 (xs (i + 1)) (xs (i + 2)) (xs (i + 3)) (xs (i + 4)) true hM) e2 rfl (by decide) (Nat.le_of_ble_eq_true rfl) dL_law_1170 rfl ?_
  show Lj l D cA h0 ad b L xs sh P σ2 1173 [(0, .ref b), (1, .ref (h0 + 0)), (2, .ref (h0 + 233)), (3, .int (Int32.ofNat i))] [.int r, .int r]
  refine lj_icmp_eqY (tgt := 1399) rfl dL_law_1173 (by decide) ?_
  exact kk

set_option maxHeartbeats 4000000 in
theorem lc_28 {tw dr i : Nat} {r : Bool} {σ1 : St_} {σ2 : St_} (hL : L ≤ 3072) (hi : i + 5 < L) (hT : LY11 sh P 0 tw dr) (hM : LY12 sh P 233) (e1 : mX11_untell 0 tw dr (xs (i + 1)) σ = some (r, σ1)) (e2 : mX12_untell 233 (xs (i + 1)) σ1 = some (r, σ2)) (kk : Lj l D cA h0 ad b L xs sh P σ2 1399 [(0, .ref b), (1, .ref (h0 + 0)), (2, .ref (h0 + 233)), (3, .int (Int32.ofNat i))] []) : Lj l D cA h0 ad b L xs sh P σ 1178 [(0, .ref b), (1, .ref (h0 + 0)), (2, .ref (h0 + 233)), (3, .int (Int32.ofNat i))] [] := by
  refine lj_aload_n (q := 1179) dL_law_1178 rfl (i := 1) rfl (pl := 1) rfl ?_
  refine lj_aload_n (q := 1180) dL_law_1179 rfl (i := 0) rfl (pl := 0) rfl ?_
  refine lj_iload_n (q := 1181) dL_law_1180 rfl (i := 3) rfl (pl := 3) rfl ?_
  refine lj_iconst (q := 1182) (v := 1) dL_law_1181 rfl (by decide) ?_
  refine lj_iadd (q := 1183) dL_law_1182 rfl ?_
  refine lj_sld (q := 1184) (k := i + 1) (ofN_add i 1) (by omega) hL dL_law_1183 rfl ?_
  refine lj_run (q := 1187) (t := 0) (v := (r, σ1)) (As := [.int (xs (i + 1))]) (rest := []) wi_RL_137 (hT).s rfl (rX11_untell 0 tw dr (xs (i + 1)) hT) e1 rfl (by decide) (Nat.le_of_ble_eq_true rfl) dL_law_1184 rfl ?_
  show Lj l D cA h0 ad b L xs sh P σ1 1187 [(0, .ref b), (1, .ref (h0 + 0)), (2, .ref (h0 + 233)), (3, .int (Int32.ofNat i))] [.int (b2i r)]
  refine lj_aload_n (q := 1188) dL_law_1187 rfl (i := 2) rfl (pl := 2) rfl ?_
  refine lj_aload_n (q := 1189) dL_law_1188 rfl (i := 0) rfl (pl := 0) rfl ?_
  refine lj_iload_n (q := 1190) dL_law_1189 rfl (i := 3) rfl (pl := 3) rfl ?_
  refine lj_iconst (q := 1191) (v := 1) dL_law_1190 rfl (by decide) ?_
  refine lj_iadd (q := 1192) dL_law_1191 rfl ?_
  refine lj_sld (q := 1193) (k := i + 1) (ofN_add i 1) (by omega) hL dL_law_1192 rfl ?_
  refine lj_run (q := 1196) (t := 233) (v := (r, σ2)) (As := [.int (xs (i + 1))]) (rest := [.int (b2i r)]) wi_RL_141 (hM).s rfl (rX12_untell 233 (xs (i + 1)) hM) e2 rfl (by decide) (Nat.le_of_ble_eq_true rfl) dL_law_1193 rfl ?_
  show Lj l D cA h0 ad b L xs sh P σ2 1196 [(0, .ref b), (1, .ref (h0 + 0)), (2, .ref (h0 + 233)), (3, .int (Int32.ofNat i))] [.int (b2i r), .int (b2i r)]
  refine lj_icmp_eqY (tgt := 1399) rfl dL_law_1196 (by decide) ?_
  exact kk

set_option maxHeartbeats 4000000 in
theorem lc_29 {tw dr i : Nat} {r : Int32} {σ1 : St_} {σ2 : St_} (hL : L ≤ 3072) (hi : i + 5 < L) (hT : LY11 sh P 0 tw dr) (hM : LY12 sh P 233) (e1 : mX11_later 0 tw dr (xs (i + 1)) σ = some (r, σ1)) (e2 : mX12_later 233 (xs (i + 1)) σ1 = some (r, σ2)) (kk : Lj l D cA h0 ad b L xs sh P σ2 1399 [(0, .ref b), (1, .ref (h0 + 0)), (2, .ref (h0 + 233)), (3, .int (Int32.ofNat i))] []) : Lj l D cA h0 ad b L xs sh P σ 1201 [(0, .ref b), (1, .ref (h0 + 0)), (2, .ref (h0 + 233)), (3, .int (Int32.ofNat i))] [] := by
  refine lj_aload_n (q := 1202) dL_law_1201 rfl (i := 1) rfl (pl := 1) rfl ?_
  refine lj_aload_n (q := 1203) dL_law_1202 rfl (i := 0) rfl (pl := 0) rfl ?_
  refine lj_iload_n (q := 1204) dL_law_1203 rfl (i := 3) rfl (pl := 3) rfl ?_
  refine lj_iconst (q := 1205) (v := 1) dL_law_1204 rfl (by decide) ?_
  refine lj_iadd (q := 1206) dL_law_1205 rfl ?_
  refine lj_sld (q := 1207) (k := i + 1) (ofN_add i 1) (by omega) hL dL_law_1206 rfl ?_
  refine lj_run (q := 1210) (t := 0) (v := (r, σ1)) (As := [.int (xs (i + 1))]) (rest := []) wi_RL_142 (hT).s rfl (rX11_later 0 tw dr (xs (i + 1)) hT) e1 rfl (by decide) (Nat.le_of_ble_eq_true rfl) dL_law_1207 rfl ?_
  show Lj l D cA h0 ad b L xs sh P σ1 1210 [(0, .ref b), (1, .ref (h0 + 0)), (2, .ref (h0 + 233)), (3, .int (Int32.ofNat i))] [.int r]
  refine lj_aload_n (q := 1211) dL_law_1210 rfl (i := 2) rfl (pl := 2) rfl ?_
  refine lj_aload_n (q := 1212) dL_law_1211 rfl (i := 0) rfl (pl := 0) rfl ?_
  refine lj_iload_n (q := 1213) dL_law_1212 rfl (i := 3) rfl (pl := 3) rfl ?_
  refine lj_iconst (q := 1214) (v := 1) dL_law_1213 rfl (by decide) ?_
  refine lj_iadd (q := 1215) dL_law_1214 rfl ?_
  refine lj_sld (q := 1216) (k := i + 1) (ofN_add i 1) (by omega) hL dL_law_1215 rfl ?_
  refine lj_run (q := 1219) (t := 233) (v := (r, σ2)) (As := [.int (xs (i + 1))]) (rest := [.int r]) wi_RL_145 (hM).s rfl (rX12_later 233 (xs (i + 1)) hM) e2 rfl (by decide) (Nat.le_of_ble_eq_true rfl) dL_law_1216 rfl ?_
  show Lj l D cA h0 ad b L xs sh P σ2 1219 [(0, .ref b), (1, .ref (h0 + 0)), (2, .ref (h0 + 233)), (3, .int (Int32.ofNat i))] [.int r, .int r]
  refine lj_icmp_eqY (tgt := 1399) rfl dL_law_1219 (by decide) ?_
  exact kk

set_option maxHeartbeats 4000000 in
theorem lc_30 {tw dr i : Nat} {r : Int32} {σ1 : St_} {σ2 : St_} (hL : L ≤ 3072) (hi : i + 5 < L) (hT : LY11 sh P 0 tw dr) (hM : LY12 sh P 233) (e1 : mX11_span 0 tw dr (xs (i + 1)) (xs (i + 2)) (xs (i + 3)) (xs (i + 4)) σ = some (r, σ1)) (e2 : mX12_span 233 (xs (i + 1)) (xs (i + 2)) (xs (i + 3)) (xs (i + 4)) σ1 = some (r, σ2)) (kk : Lj l D cA h0 ad b L xs sh P σ2 1399 [(0, .ref b), (1, .ref (h0 + 0)), (2, .ref (h0 + 233)), (3, .int (Int32.ofNat i))] []) : Lj l D cA h0 ad b L xs sh P σ 1224 [(0, .ref b), (1, .ref (h0 + 0)), (2, .ref (h0 + 233)), (3, .int (Int32.ofNat i))] [] := by
  refine lj_aload_n (q := 1225) dL_law_1224 rfl (i := 1) rfl (pl := 1) rfl ?_
  refine lj_aload_n (q := 1226) dL_law_1225 rfl (i := 0) rfl (pl := 0) rfl ?_
  refine lj_iload_n (q := 1227) dL_law_1226 rfl (i := 3) rfl (pl := 3) rfl ?_
  refine lj_iconst (q := 1228) (v := 1) dL_law_1227 rfl (by decide) ?_
  refine lj_iadd (q := 1229) dL_law_1228 rfl ?_
  refine lj_sld (q := 1230) (k := i + 1) (ofN_add i 1) (by omega) hL dL_law_1229 rfl ?_
  refine lj_aload_n (q := 1231) dL_law_1230 rfl (i := 0) rfl (pl := 0) rfl ?_
  refine lj_iload_n (q := 1232) dL_law_1231 rfl (i := 3) rfl (pl := 3) rfl ?_
  refine lj_iconst (q := 1233) (v := 2) dL_law_1232 rfl (by decide) ?_
  refine lj_iadd (q := 1234) dL_law_1233 rfl ?_
  refine lj_sld (q := 1235) (k := i + 2) (ofN_add i 2) (by omega) hL dL_law_1234 rfl ?_
  refine lj_aload_n (q := 1236) dL_law_1235 rfl (i := 0) rfl (pl := 0) rfl ?_
  refine lj_iload_n (q := 1237) dL_law_1236 rfl (i := 3) rfl (pl := 3) rfl ?_
  refine lj_iconst (q := 1238) (v := 3) dL_law_1237 rfl (by decide) ?_
  refine lj_iadd (q := 1239) dL_law_1238 rfl ?_
  refine lj_sld (q := 1240) (k := i + 3) (ofN_add i 3) (by omega) hL dL_law_1239 rfl ?_
  refine lj_aload_n (q := 1241) dL_law_1240 rfl (i := 0) rfl (pl := 0) rfl ?_
  refine lj_iload_n (q := 1242) dL_law_1241 rfl (i := 3) rfl (pl := 3) rfl ?_
  refine lj_iconst (q := 1243) (v := 4) dL_law_1242 rfl (by decide) ?_
  refine lj_iadd (q := 1244) dL_law_1243 rfl ?_
  refine lj_sld (q := 1245) (k := i + 4) (ofN_add i 4) (by omega) hL dL_law_1244 rfl ?_
  refine lj_run (q := 1248) (t := 0) (v := (r, σ1)) (As := [.int (xs (i + 1)), .int (xs (i + 2)), .int (xs (i + 3)), .int (xs (i + 4))]) (rest := []) wi_RL_146 (hT).s rfl (rX11_span 0 tw dr (xs (i + 1)) (xs (i + 2)) (xs (i + 3)) (xs (i + 4)) hT) e1 rfl (by decide) (Nat.le_of_ble_eq_true rfl) dL_law_1245 rfl ?_
  show Lj l D cA h0 ad b L xs sh P σ1 1248 [(0, .ref b), (1, .ref (h0 + 0)), (2, .ref (h0 + 233)), (3, .int (Int32.ofNat i))] [.int r]
  refine lj_aload_n (q := 1249) dL_law_1248 rfl (i := 2) rfl (pl := 2) rfl ?_
  refine lj_aload_n (q := 1250) dL_law_1249 rfl (i := 0) rfl (pl := 0) rfl ?_
  refine lj_iload_n (q := 1251) dL_law_1250 rfl (i := 3) rfl (pl := 3) rfl ?_
  refine lj_iconst (q := 1252) (v := 1) dL_law_1251 rfl (by decide) ?_
  refine lj_iadd (q := 1253) dL_law_1252 rfl ?_
  refine lj_sld (q := 1254) (k := i + 1) (ofN_add i 1) (by omega) hL dL_law_1253 rfl ?_
  refine lj_aload_n (q := 1255) dL_law_1254 rfl (i := 0) rfl (pl := 0) rfl ?_
  refine lj_iload_n (q := 1256) dL_law_1255 rfl (i := 3) rfl (pl := 3) rfl ?_
  refine lj_iconst (q := 1257) (v := 2) dL_law_1256 rfl (by decide) ?_
  refine lj_iadd (q := 1258) dL_law_1257 rfl ?_
  refine lj_sld (q := 1259) (k := i + 2) (ofN_add i 2) (by omega) hL dL_law_1258 rfl ?_
  refine lj_aload_n (q := 1260) dL_law_1259 rfl (i := 0) rfl (pl := 0) rfl ?_
  refine lj_iload_n (q := 1261) dL_law_1260 rfl (i := 3) rfl (pl := 3) rfl ?_
  refine lj_iconst (q := 1262) (v := 3) dL_law_1261 rfl (by decide) ?_
  refine lj_iadd (q := 1263) dL_law_1262 rfl ?_
  refine lj_sld (q := 1264) (k := i + 3) (ofN_add i 3) (by omega) hL dL_law_1263 rfl ?_
  refine lj_aload_n (q := 1265) dL_law_1264 rfl (i := 0) rfl (pl := 0) rfl ?_
  refine lj_iload_n (q := 1266) dL_law_1265 rfl (i := 3) rfl (pl := 3) rfl ?_
  refine lj_iconst (q := 1267) (v := 4) dL_law_1266 rfl (by decide) ?_
  refine lj_iadd (q := 1268) dL_law_1267 rfl ?_
  refine lj_sld (q := 1269) (k := i + 4) (ofN_add i 4) (by omega) hL dL_law_1268 rfl ?_
  refine lj_run (q := 1272) (t := 233) (v := (r, σ2)) (As := [.int (xs (i + 1)), .int (xs (i + 2)), .int (xs (i + 3)), .int (xs (i + 4))]) (rest := [.int r]) wi_RL_149 (hM).s rfl (rX12_span 233 (xs (i + 1)) (xs (i + 2)) (xs (i + 3)) (xs (i + 4)) hM) e2 rfl (by decide) (Nat.le_of_ble_eq_true rfl) dL_law_1269 rfl ?_
  show Lj l D cA h0 ad b L xs sh P σ2 1272 [(0, .ref b), (1, .ref (h0 + 0)), (2, .ref (h0 + 233)), (3, .int (Int32.ofNat i))] [.int r, .int r]
  refine lj_icmp_eqY (tgt := 1399) rfl dL_law_1272 (by decide) ?_
  exact kk

set_option maxHeartbeats 4000000 in
theorem lc_31 {tw dr i : Nat} {r : Int32} {σ1 : St_} {σ2 : St_} (hL : L ≤ 3072) (hi : i + 5 < L) (hT : LY11 sh P 0 tw dr) (hM : LY12 sh P 233) (e1 : mX11_ask 0 tw dr (xs (i + 1)) (xs (i + 2)) (xs (i + 3)) (xs (i + 4)) σ = some (r, σ1)) (e2 : mX12_ask 233 (xs (i + 1)) (xs (i + 2)) (xs (i + 3)) (xs (i + 4)) σ1 = some (r, σ2)) (kk : Lj l D cA h0 ad b L xs sh P σ2 1399 [(0, .ref b), (1, .ref (h0 + 0)), (2, .ref (h0 + 233)), (3, .int (Int32.ofNat i))] []) : Lj l D cA h0 ad b L xs sh P σ 1277 [(0, .ref b), (1, .ref (h0 + 0)), (2, .ref (h0 + 233)), (3, .int (Int32.ofNat i))] [] := by
  refine lj_aload_n (q := 1278) dL_law_1277 rfl (i := 1) rfl (pl := 1) rfl ?_
  refine lj_aload_n (q := 1279) dL_law_1278 rfl (i := 0) rfl (pl := 0) rfl ?_
  refine lj_iload_n (q := 1280) dL_law_1279 rfl (i := 3) rfl (pl := 3) rfl ?_
  refine lj_iconst (q := 1281) (v := 1) dL_law_1280 rfl (by decide) ?_
  refine lj_iadd (q := 1282) dL_law_1281 rfl ?_
  refine lj_sld (q := 1283) (k := i + 1) (ofN_add i 1) (by omega) hL dL_law_1282 rfl ?_
  refine lj_aload_n (q := 1284) dL_law_1283 rfl (i := 0) rfl (pl := 0) rfl ?_
  refine lj_iload_n (q := 1285) dL_law_1284 rfl (i := 3) rfl (pl := 3) rfl ?_
  refine lj_iconst (q := 1286) (v := 2) dL_law_1285 rfl (by decide) ?_
  refine lj_iadd (q := 1287) dL_law_1286 rfl ?_
  refine lj_sld (q := 1288) (k := i + 2) (ofN_add i 2) (by omega) hL dL_law_1287 rfl ?_
  refine lj_aload_n (q := 1289) dL_law_1288 rfl (i := 0) rfl (pl := 0) rfl ?_
  refine lj_iload_n (q := 1290) dL_law_1289 rfl (i := 3) rfl (pl := 3) rfl ?_
  refine lj_iconst (q := 1291) (v := 3) dL_law_1290 rfl (by decide) ?_
  refine lj_iadd (q := 1292) dL_law_1291 rfl ?_
  refine lj_sld (q := 1293) (k := i + 3) (ofN_add i 3) (by omega) hL dL_law_1292 rfl ?_
  refine lj_aload_n (q := 1294) dL_law_1293 rfl (i := 0) rfl (pl := 0) rfl ?_
  refine lj_iload_n (q := 1295) dL_law_1294 rfl (i := 3) rfl (pl := 3) rfl ?_
  refine lj_iconst (q := 1296) (v := 4) dL_law_1295 rfl (by decide) ?_
  refine lj_iadd (q := 1297) dL_law_1296 rfl ?_
  refine lj_sld (q := 1298) (k := i + 4) (ofN_add i 4) (by omega) hL dL_law_1297 rfl ?_
  refine lj_run (q := 1301) (t := 0) (v := (r, σ1)) (As := [.int (xs (i + 1)), .int (xs (i + 2)), .int (xs (i + 3)), .int (xs (i + 4))]) (rest := []) wi_RL_150 (hT).s rfl (rX11_ask 0 tw dr (xs (i + 1)) (xs (i + 2)) (xs (i + 3)) (xs (i + 4)) hT) e1 rfl (by decide) (Nat.le_of_ble_eq_true rfl) dL_law_1298 rfl ?_
  show Lj l D cA h0 ad b L xs sh P σ1 1301 [(0, .ref b), (1, .ref (h0 + 0)), (2, .ref (h0 + 233)), (3, .int (Int32.ofNat i))] [.int r]
  refine lj_aload_n (q := 1302) dL_law_1301 rfl (i := 2) rfl (pl := 2) rfl ?_
  refine lj_aload_n (q := 1303) dL_law_1302 rfl (i := 0) rfl (pl := 0) rfl ?_
  refine lj_iload_n (q := 1304) dL_law_1303 rfl (i := 3) rfl (pl := 3) rfl ?_
  refine lj_iconst (q := 1305) (v := 1) dL_law_1304 rfl (by decide) ?_
  refine lj_iadd (q := 1306) dL_law_1305 rfl ?_
  refine lj_sld (q := 1307) (k := i + 1) (ofN_add i 1) (by omega) hL dL_law_1306 rfl ?_
  refine lj_aload_n (q := 1308) dL_law_1307 rfl (i := 0) rfl (pl := 0) rfl ?_
  refine lj_iload_n (q := 1309) dL_law_1308 rfl (i := 3) rfl (pl := 3) rfl ?_
  refine lj_iconst (q := 1310) (v := 2) dL_law_1309 rfl (by decide) ?_
  refine lj_iadd (q := 1311) dL_law_1310 rfl ?_
  refine lj_sld (q := 1312) (k := i + 2) (ofN_add i 2) (by omega) hL dL_law_1311 rfl ?_
  refine lj_aload_n (q := 1313) dL_law_1312 rfl (i := 0) rfl (pl := 0) rfl ?_
  refine lj_iload_n (q := 1314) dL_law_1313 rfl (i := 3) rfl (pl := 3) rfl ?_
  refine lj_iconst (q := 1315) (v := 3) dL_law_1314 rfl (by decide) ?_
  refine lj_iadd (q := 1316) dL_law_1315 rfl ?_
  refine lj_sld (q := 1317) (k := i + 3) (ofN_add i 3) (by omega) hL dL_law_1316 rfl ?_
  refine lj_aload_n (q := 1318) dL_law_1317 rfl (i := 0) rfl (pl := 0) rfl ?_
  refine lj_iload_n (q := 1319) dL_law_1318 rfl (i := 3) rfl (pl := 3) rfl ?_
  refine lj_iconst (q := 1320) (v := 4) dL_law_1319 rfl (by decide) ?_
  refine lj_iadd (q := 1321) dL_law_1320 rfl ?_
  refine lj_sld (q := 1322) (k := i + 4) (ofN_add i 4) (by omega) hL dL_law_1321 rfl ?_
  refine lj_run (q := 1325) (t := 233) (v := (r, σ2)) (As := [.int (xs (i + 1)), .int (xs (i + 2)), .int (xs (i + 3)), .int (xs (i + 4))]) (rest := [.int r]) wi_RL_153 (hM).s rfl (rX12_ask 233 (xs (i + 1)) (xs (i + 2)) (xs (i + 3)) (xs (i + 4)) hM) e2 rfl (by decide) (Nat.le_of_ble_eq_true rfl) dL_law_1322 rfl ?_
  show Lj l D cA h0 ad b L xs sh P σ2 1325 [(0, .ref b), (1, .ref (h0 + 0)), (2, .ref (h0 + 233)), (3, .int (Int32.ofNat i))] [.int r, .int r]
  refine lj_icmp_eqY (tgt := 1399) rfl dL_law_1325 (by decide) ?_
  exact kk

set_option maxHeartbeats 4000000 in
theorem lc_32 {tw dr i : Nat} {r : Int32} {σ1 : St_} {σ2 : St_} (hL : L ≤ 3072) (hi : i + 5 < L) (hT : LY11 sh P 0 tw dr) (hM : LY12 sh P 233) (e1 : mX11_image 0 tw dr (xs (i + 1)) σ = some (r, σ1)) (e2 : mX12_image 233 (xs (i + 1)) σ1 = some (r, σ2)) (kk : Lj l D cA h0 ad b L xs sh P σ2 1399 [(0, .ref b), (1, .ref (h0 + 0)), (2, .ref (h0 + 233)), (3, .int (Int32.ofNat i))] []) : Lj l D cA h0 ad b L xs sh P σ 1330 [(0, .ref b), (1, .ref (h0 + 0)), (2, .ref (h0 + 233)), (3, .int (Int32.ofNat i))] [] := by
  refine lj_aload_n (q := 1331) dL_law_1330 rfl (i := 1) rfl (pl := 1) rfl ?_
  refine lj_aload_n (q := 1332) dL_law_1331 rfl (i := 0) rfl (pl := 0) rfl ?_
  refine lj_iload_n (q := 1333) dL_law_1332 rfl (i := 3) rfl (pl := 3) rfl ?_
  refine lj_iconst (q := 1334) (v := 1) dL_law_1333 rfl (by decide) ?_
  refine lj_iadd (q := 1335) dL_law_1334 rfl ?_
  refine lj_sld (q := 1336) (k := i + 1) (ofN_add i 1) (by omega) hL dL_law_1335 rfl ?_
  refine lj_run (q := 1339) (t := 0) (v := (r, σ1)) (As := [.int (xs (i + 1))]) (rest := []) wi_RL_154 (hT).s rfl (rX11_image 0 tw dr (xs (i + 1)) hT) e1 rfl (by decide) (Nat.le_of_ble_eq_true rfl) dL_law_1336 rfl ?_
  show Lj l D cA h0 ad b L xs sh P σ1 1339 [(0, .ref b), (1, .ref (h0 + 0)), (2, .ref (h0 + 233)), (3, .int (Int32.ofNat i))] [.int r]
  refine lj_aload_n (q := 1340) dL_law_1339 rfl (i := 2) rfl (pl := 2) rfl ?_
  refine lj_aload_n (q := 1341) dL_law_1340 rfl (i := 0) rfl (pl := 0) rfl ?_
  refine lj_iload_n (q := 1342) dL_law_1341 rfl (i := 3) rfl (pl := 3) rfl ?_
  refine lj_iconst (q := 1343) (v := 1) dL_law_1342 rfl (by decide) ?_
  refine lj_iadd (q := 1344) dL_law_1343 rfl ?_
  refine lj_sld (q := 1345) (k := i + 1) (ofN_add i 1) (by omega) hL dL_law_1344 rfl ?_
  refine lj_run (q := 1348) (t := 233) (v := (r, σ2)) (As := [.int (xs (i + 1))]) (rest := [.int r]) wi_RL_157 (hM).s rfl (rX12_image 233 (xs (i + 1)) hM) e2 rfl (by decide) (Nat.le_of_ble_eq_true rfl) dL_law_1345 rfl ?_
  show Lj l D cA h0 ad b L xs sh P σ2 1348 [(0, .ref b), (1, .ref (h0 + 0)), (2, .ref (h0 + 233)), (3, .int (Int32.ofNat i))] [.int r, .int r]
  refine lj_icmp_eqY (tgt := 1399) rfl dL_law_1348 (by decide) ?_
  exact kk

set_option maxHeartbeats 4000000 in
theorem lc_33 {tw dr i : Nat} {r : Int32} {σ1 : St_} {σ2 : St_} (hL : L ≤ 3072) (hi : i + 5 < L) (hT : LY11 sh P 0 tw dr) (hM : LY12 sh P 233) (e1 : mX11_back 0 tw dr (xs (i + 1)) σ = some (r, σ1)) (e2 : mX12_back 233 (xs (i + 1)) σ1 = some (r, σ2)) (kk : Lj l D cA h0 ad b L xs sh P σ2 1399 [(0, .ref b), (1, .ref (h0 + 0)), (2, .ref (h0 + 233)), (3, .int (Int32.ofNat i))] []) : Lj l D cA h0 ad b L xs sh P σ 1353 [(0, .ref b), (1, .ref (h0 + 0)), (2, .ref (h0 + 233)), (3, .int (Int32.ofNat i))] [] := by
  refine lj_aload_n (q := 1354) dL_law_1353 rfl (i := 1) rfl (pl := 1) rfl ?_
  refine lj_aload_n (q := 1355) dL_law_1354 rfl (i := 0) rfl (pl := 0) rfl ?_
  refine lj_iload_n (q := 1356) dL_law_1355 rfl (i := 3) rfl (pl := 3) rfl ?_
  refine lj_iconst (q := 1357) (v := 1) dL_law_1356 rfl (by decide) ?_
  refine lj_iadd (q := 1358) dL_law_1357 rfl ?_
  refine lj_sld (q := 1359) (k := i + 1) (ofN_add i 1) (by omega) hL dL_law_1358 rfl ?_
  refine lj_run (q := 1362) (t := 0) (v := (r, σ1)) (As := [.int (xs (i + 1))]) (rest := []) wi_RL_158 (hT).s rfl (rX11_back 0 tw dr (xs (i + 1)) hT) e1 rfl (by decide) (Nat.le_of_ble_eq_true rfl) dL_law_1359 rfl ?_
  show Lj l D cA h0 ad b L xs sh P σ1 1362 [(0, .ref b), (1, .ref (h0 + 0)), (2, .ref (h0 + 233)), (3, .int (Int32.ofNat i))] [.int r]
  refine lj_aload_n (q := 1363) dL_law_1362 rfl (i := 2) rfl (pl := 2) rfl ?_
  refine lj_aload_n (q := 1364) dL_law_1363 rfl (i := 0) rfl (pl := 0) rfl ?_
  refine lj_iload_n (q := 1365) dL_law_1364 rfl (i := 3) rfl (pl := 3) rfl ?_
  refine lj_iconst (q := 1366) (v := 1) dL_law_1365 rfl (by decide) ?_
  refine lj_iadd (q := 1367) dL_law_1366 rfl ?_
  refine lj_sld (q := 1368) (k := i + 1) (ofN_add i 1) (by omega) hL dL_law_1367 rfl ?_
  refine lj_run (q := 1371) (t := 233) (v := (r, σ2)) (As := [.int (xs (i + 1))]) (rest := [.int r]) wi_RL_161 (hM).s rfl (rX12_back 233 (xs (i + 1)) hM) e2 rfl (by decide) (Nat.le_of_ble_eq_true rfl) dL_law_1368 rfl ?_
  show Lj l D cA h0 ad b L xs sh P σ2 1371 [(0, .ref b), (1, .ref (h0 + 0)), (2, .ref (h0 + 233)), (3, .int (Int32.ofNat i))] [.int r, .int r]
  refine lj_icmp_eqY (tgt := 1399) rfl dL_law_1371 (by decide) ?_
  exact kk

set_option maxHeartbeats 4000000 in
theorem lc_34 {tw dr i : Nat} {r : Int32} (hL : L ≤ 3072) (hi : i + 5 < L) (hT : LY11 sh P 0 tw dr) (hM : LY12 sh P 233) (e1 : mX11_about 0 tw dr (xs (i + 1)) σ = some r) (e2 : mX12_about 233 (xs (i + 1)) σ = some r) (kk : Lj l D cA h0 ad b L xs sh P σ 1399 [(0, .ref b), (1, .ref (h0 + 0)), (2, .ref (h0 + 233)), (3, .int (Int32.ofNat i))] []) : Lj l D cA h0 ad b L xs sh P σ 1376 [(0, .ref b), (1, .ref (h0 + 0)), (2, .ref (h0 + 233)), (3, .int (Int32.ofNat i))] [] := by
  refine lj_aload_n (q := 1377) dL_law_1376 rfl (i := 1) rfl (pl := 1) rfl ?_
  refine lj_aload_n (q := 1378) dL_law_1377 rfl (i := 0) rfl (pl := 0) rfl ?_
  refine lj_iload_n (q := 1379) dL_law_1378 rfl (i := 3) rfl (pl := 3) rfl ?_
  refine lj_iconst (q := 1380) (v := 1) dL_law_1379 rfl (by decide) ?_
  refine lj_iadd (q := 1381) dL_law_1380 rfl ?_
  refine lj_sld (q := 1382) (k := i + 1) (ofN_add i 1) (by omega) hL dL_law_1381 rfl ?_
  refine lj_run (q := 1385) (t := 0) (v := r) (As := [.int (xs (i + 1))]) (rest := []) wi_RL_162 (hT).s rfl (rX11_about 0 tw dr (xs (i + 1)) hT) e1 rfl (by decide) (Nat.le_of_ble_eq_true rfl) dL_law_1382 rfl ?_
  show Lj l D cA h0 ad b L xs sh P σ 1385 [(0, .ref b), (1, .ref (h0 + 0)), (2, .ref (h0 + 233)), (3, .int (Int32.ofNat i))] [.int r]
  refine lj_aload_n (q := 1386) dL_law_1385 rfl (i := 2) rfl (pl := 2) rfl ?_
  refine lj_aload_n (q := 1387) dL_law_1386 rfl (i := 0) rfl (pl := 0) rfl ?_
  refine lj_iload_n (q := 1388) dL_law_1387 rfl (i := 3) rfl (pl := 3) rfl ?_
  refine lj_iconst (q := 1389) (v := 1) dL_law_1388 rfl (by decide) ?_
  refine lj_iadd (q := 1390) dL_law_1389 rfl ?_
  refine lj_sld (q := 1391) (k := i + 1) (ofN_add i 1) (by omega) hL dL_law_1390 rfl ?_
  refine lj_run (q := 1394) (t := 233) (v := r) (As := [.int (xs (i + 1))]) (rest := [.int r]) wi_RL_165 (hM).s rfl (rX12_about 233 (xs (i + 1)) hM) e2 rfl (by decide) (Nat.le_of_ble_eq_true rfl) dL_law_1391 rfl ?_
  show Lj l D cA h0 ad b L xs sh P σ 1394 [(0, .ref b), (1, .ref (h0 + 0)), (2, .ref (h0 + 233)), (3, .int (Int32.ofNat i))] [.int r, .int r]
  refine lj_icmp_eqY (tgt := 1399) rfl dL_law_1394 (by decide) ?_
  exact kk

end
