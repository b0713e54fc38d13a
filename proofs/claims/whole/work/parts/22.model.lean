section
variable {l : Launch} {D : va_G} {cA : Nat → ClassId} {h0 : Nat} {ad : Ad_} {sh : Sh_} {P : Px_} {σ : St_}
theorem dX12_city_0 : decode cX12_city 0 = .ok (.aload_n 0, 1) := by decide +kernel
theorem dX12_city_1 : decode cX12_city 1 = .ok (.invokevirtual 413, 3) := by decide +kernel
theorem dX12_city_4 : decode cX12_city 4 = .ok (.aload_n 0, 1) := by decide +kernel
theorem dX12_city_5 : decode cX12_city 5 = .ok (.getfield 203, 3) := by decide +kernel
theorem dX12_city_8 : decode cX12_city 8 = .ok (.ifCond .le 5, 3) := by decide +kernel
theorem dX12_city_11 : decode cX12_city 11 = .ok (.iconst (-1), 1) := by decide +kernel
theorem dX12_city_12 : decode cX12_city 12 = .ok (.ireturn, 1) := by decide +kernel
theorem dX12_city_13 : decode cX12_city 13 = .ok (.aload_n 0, 1) := by decide +kernel
theorem dX12_city_14 : decode cX12_city 14 = .ok (.aload_n 0, 1) := by decide +kernel
theorem dX12_city_15 : decode cX12_city 15 = .ok (.getfield 348, 3) := by decide +kernel
theorem dX12_city_18 : decode cX12_city 18 = .ok (.putfield 416, 3) := by decide +kernel
theorem dX12_city_21 : decode cX12_city 21 = .ok (.aload_n 0, 1) := by decide +kernel
theorem dX12_city_22 : decode cX12_city 22 = .ok (.aload_n 0, 1) := by decide +kernel
theorem dX12_city_23 : decode cX12_city 23 = .ok (.getfield 354, 3) := by decide +kernel
theorem dX12_city_26 : decode cX12_city 26 = .ok (.putfield 419, 3) := by decide +kernel
theorem dX12_city_29 : decode cX12_city 29 = .ok (.aload_n 0, 1) := by decide +kernel
theorem dX12_city_30 : decode cX12_city 30 = .ok (.aload_n 0, 1) := by decide +kernel
theorem dX12_city_31 : decode cX12_city 31 = .ok (.getfield 367, 3) := by decide +kernel
theorem dX12_city_34 : decode cX12_city 34 = .ok (.putfield 422, 3) := by decide +kernel
theorem dX12_city_37 : decode cX12_city 37 = .ok (.aload_n 0, 1) := by decide +kernel
theorem dX12_city_38 : decode cX12_city 38 = .ok (.aload_n 0, 1) := by decide +kernel
theorem dX12_city_39 : decode cX12_city 39 = .ok (.getfield 376, 3) := by decide +kernel
theorem dX12_city_42 : decode cX12_city 42 = .ok (.putfield 425, 3) := by decide +kernel
theorem dX12_city_45 : decode cX12_city 45 = .ok (.aload_n 0, 1) := by decide +kernel
theorem dX12_city_46 : decode cX12_city 46 = .ok (.aload_n 0, 1) := by decide +kernel
theorem dX12_city_47 : decode cX12_city 47 = .ok (.getfield 370, 3) := by decide +kernel
theorem dX12_city_50 : decode cX12_city 50 = .ok (.putfield 99, 3) := by decide +kernel
theorem dX12_city_53 : decode cX12_city 53 = .ok (.aload_n 0, 1) := by decide +kernel
theorem dX12_city_54 : decode cX12_city 54 = .ok (.aload_n 0, 1) := by decide +kernel
theorem dX12_city_55 : decode cX12_city 55 = .ok (.getfield 404, 3) := by decide +kernel
theorem dX12_city_58 : decode cX12_city 58 = .ok (.putfield 428, 3) := by decide +kernel
theorem dX12_city_61 : decode cX12_city 61 = .ok (.aload_n 0, 1) := by decide +kernel
theorem dX12_city_62 : decode cX12_city 62 = .ok (.aload_n 0, 1) := by decide +kernel
theorem dX12_city_63 : decode cX12_city 63 = .ok (.getfield 300, 3) := by decide +kernel
theorem dX12_city_66 : decode cX12_city 66 = .ok (.putfield 431, 3) := by decide +kernel
theorem dX12_city_69 : decode cX12_city 69 = .ok (.aload_n 0, 1) := by decide +kernel
theorem dX12_city_70 : decode cX12_city 70 = .ok (.aload_n 0, 1) := by decide +kernel
theorem dX12_city_71 : decode cX12_city 71 = .ok (.getfield 404, 3) := by decide +kernel
theorem dX12_city_74 : decode cX12_city 74 = .ok (.ifCond .eq 10, 3) := by decide +kernel
theorem dX12_city_77 : decode cX12_city 77 = .ok (.aload_n 0, 1) := by decide +kernel
theorem dX12_city_78 : decode cX12_city 78 = .ok (.getfield 284, 3) := by decide +kernel
theorem dX12_city_81 : decode cX12_city 81 = .ok (.goto 4, 3) := by decide +kernel
theorem dX12_city_84 : decode cX12_city 84 = .ok (.iconst 0, 1) := by decide +kernel
theorem dX12_city_85 : decode cX12_city 85 = .ok (.putfield 341, 3) := by decide +kernel
theorem dX12_city_88 : decode cX12_city 88 = .ok (.iconst 0, 1) := by decide +kernel
theorem dX12_city_89 : decode cX12_city 89 = .ok (.istore_n 1, 1) := by decide +kernel
theorem dX12_city_90 : decode cX12_city 90 = .ok (.iload_n 1, 1) := by decide +kernel
theorem dX12_city_91 : decode cX12_city 91 = .ok (.aload_n 0, 1) := by decide +kernel
theorem dX12_city_92 : decode cX12_city 92 = .ok (.getfield 341, 3) := by decide +kernel
theorem dX12_city_95 : decode cX12_city 95 = .ok (.if_icmp .ge 33, 3) := by decide +kernel
theorem dX12_city_98 : decode cX12_city 98 = .ok (.aload_n 0, 1) := by decide +kernel
theorem dX12_city_99 : decode cX12_city 99 = .ok (.getfield 30, 3) := by decide +kernel
theorem dX12_city_102 : decode cX12_city 102 = .ok (.iload_n 1, 1) := by decide +kernel
theorem dX12_city_103 : decode cX12_city 103 = .ok (.aload_n 0, 1) := by decide +kernel
theorem dX12_city_104 : decode cX12_city 104 = .ok (.getfield 24, 3) := by decide +kernel
theorem dX12_city_107 : decode cX12_city 107 = .ok (.iload_n 1, 1) := by decide +kernel
theorem dX12_city_108 : decode cX12_city 108 = .ok (.iaload, 1) := by decide +kernel
theorem dX12_city_109 : decode cX12_city 109 = .ok (.iastore, 1) := by decide +kernel
theorem dX12_city_110 : decode cX12_city 110 = .ok (.aload_n 0, 1) := by decide +kernel
theorem dX12_city_111 : decode cX12_city 111 = .ok (.getfield 33, 3) := by decide +kernel
theorem dX12_city_114 : decode cX12_city 114 = .ok (.iload_n 1, 1) := by decide +kernel
theorem dX12_city_115 : decode cX12_city 115 = .ok (.aload_n 0, 1) := by decide +kernel
theorem dX12_city_116 : decode cX12_city 116 = .ok (.getfield 27, 3) := by decide +kernel
theorem dX12_city_119 : decode cX12_city 119 = .ok (.iload_n 1, 1) := by decide +kernel
theorem dX12_city_120 : decode cX12_city 120 = .ok (.iaload, 1) := by decide +kernel
theorem dX12_city_121 : decode cX12_city 121 = .ok (.iastore, 1) := by decide +kernel
theorem dX12_city_122 : decode cX12_city 122 = .ok (.iinc 1 1, 3) := by decide +kernel
theorem dX12_city_125 : decode cX12_city 125 = .ok (.goto (-35), 3) := by decide +kernel
theorem dX12_city_128 : decode cX12_city 128 = .ok (.iconst 0, 1) := by decide +kernel
theorem dX12_city_129 : decode cX12_city 129 = .ok (.istore_n 1, 1) := by decide +kernel
theorem dX12_city_130 : decode cX12_city 130 = .ok (.iload_n 1, 1) := by decide +kernel
theorem dX12_city_131 : decode cX12_city 131 = .ok (.bipush 10, 2) := by decide +kernel
theorem dX12_city_133 : decode cX12_city 133 = .ok (.if_icmp .ge 57, 3) := by decide +kernel
theorem dX12_city_136 : decode cX12_city 136 = .ok (.aload_n 0, 1) := by decide +kernel
theorem dX12_city_137 : decode cX12_city 137 = .ok (.getfield 72, 3) := by decide +kernel
theorem dX12_city_140 : decode cX12_city 140 = .ok (.iload_n 1, 1) := by decide +kernel
theorem dX12_city_141 : decode cX12_city 141 = .ok (.aload_n 0, 1) := by decide +kernel
theorem dX12_city_142 : decode cX12_city 142 = .ok (.getfield 45, 3) := by decide +kernel
theorem dX12_city_145 : decode cX12_city 145 = .ok (.iload_n 1, 1) := by decide +kernel
theorem dX12_city_146 : decode cX12_city 146 = .ok (.iaload, 1) := by decide +kernel
theorem dX12_city_147 : decode cX12_city 147 = .ok (.iastore, 1) := by decide +kernel
theorem dX12_city_148 : decode cX12_city 148 = .ok (.aload_n 0, 1) := by decide +kernel
theorem dX12_city_149 : decode cX12_city 149 = .ok (.getfield 75, 3) := by decide +kernel
theorem dX12_city_152 : decode cX12_city 152 = .ok (.iload_n 1, 1) := by decide +kernel
theorem dX12_city_153 : decode cX12_city 153 = .ok (.aload_n 0, 1) := by decide +kernel
theorem dX12_city_154 : decode cX12_city 154 = .ok (.getfield 48, 3) := by decide +kernel
theorem dX12_city_157 : decode cX12_city 157 = .ok (.iload_n 1, 1) := by decide +kernel
theorem dX12_city_158 : decode cX12_city 158 = .ok (.iaload, 1) := by decide +kernel
theorem dX12_city_159 : decode cX12_city 159 = .ok (.iastore, 1) := by decide +kernel
theorem dX12_city_160 : decode cX12_city 160 = .ok (.aload_n 0, 1) := by decide +kernel
theorem dX12_city_161 : decode cX12_city 161 = .ok (.getfield 78, 3) := by decide +kernel
theorem dX12_city_164 : decode cX12_city 164 = .ok (.iload_n 1, 1) := by decide +kernel
theorem dX12_city_165 : decode cX12_city 165 = .ok (.aload_n 0, 1) := by decide +kernel
theorem dX12_city_166 : decode cX12_city 166 = .ok (.getfield 51, 3) := by decide +kernel
theorem dX12_city_169 : decode cX12_city 169 = .ok (.iload_n 1, 1) := by decide +kernel
theorem dX12_city_170 : decode cX12_city 170 = .ok (.iaload, 1) := by decide +kernel
theorem dX12_city_171 : decode cX12_city 171 = .ok (.iastore, 1) := by decide +kernel
theorem dX12_city_172 : decode cX12_city 172 = .ok (.aload_n 0, 1) := by decide +kernel
theorem dX12_city_173 : decode cX12_city 173 = .ok (.getfield 81, 3) := by decide +kernel
theorem dX12_city_176 : decode cX12_city 176 = .ok (.iload_n 1, 1) := by decide +kernel
theorem dX12_city_177 : decode cX12_city 177 = .ok (.aload_n 0, 1) := by decide +kernel
theorem dX12_city_178 : decode cX12_city 178 = .ok (.getfield 54, 3) := by decide +kernel
theorem dX12_city_181 : decode cX12_city 181 = .ok (.iload_n 1, 1) := by decide +kernel
theorem dX12_city_182 : decode cX12_city 182 = .ok (.iaload, 1) := by decide +kernel
theorem dX12_city_183 : decode cX12_city 183 = .ok (.iastore, 1) := by decide +kernel
theorem dX12_city_184 : decode cX12_city 184 = .ok (.iinc 1 1, 3) := by decide +kernel
theorem dX12_city_187 : decode cX12_city 187 = .ok (.goto (-57), 3) := by decide +kernel
theorem dX12_city_190 : decode cX12_city 190 = .ok (.iconst 0, 1) := by decide +kernel
theorem dX12_city_191 : decode cX12_city 191 = .ok (.istore_n 1, 1) := by decide +kernel
theorem dX12_city_192 : decode cX12_city 192 = .ok (.iload_n 1, 1) := by decide +kernel
theorem dX12_city_193 : decode cX12_city 193 = .ok (.iconst 5, 1) := by decide +kernel
theorem dX12_city_194 : decode cX12_city 194 = .ok (.if_icmp .ge 33, 3) := by decide +kernel
theorem dX12_city_197 : decode cX12_city 197 = .ok (.aload_n 0, 1) := by decide +kernel
theorem dX12_city_198 : decode cX12_city 198 = .ok (.getfield 84, 3) := by decide +kernel
theorem dX12_city_201 : decode cX12_city 201 = .ok (.iload_n 1, 1) := by decide +kernel
theorem dX12_city_202 : decode cX12_city 202 = .ok (.aload_n 0, 1) := by decide +kernel
theorem dX12_city_203 : decode cX12_city 203 = .ok (.getfield 57, 3) := by decide +kernel
theorem dX12_city_206 : decode cX12_city 206 = .ok (.iload_n 1, 1) := by decide +kernel
theorem dX12_city_207 : decode cX12_city 207 = .ok (.iaload, 1) := by decide +kernel
theorem dX12_city_208 : decode cX12_city 208 = .ok (.iastore, 1) := by decide +kernel
theorem dX12_city_209 : decode cX12_city 209 = .ok (.aload_n 0, 1) := by decide +kernel
theorem dX12_city_210 : decode cX12_city 210 = .ok (.getfield 87, 3) := by decide +kernel
theorem dX12_city_213 : decode cX12_city 213 = .ok (.iload_n 1, 1) := by decide +kernel
theorem dX12_city_214 : decode cX12_city 214 = .ok (.aload_n 0, 1) := by decide +kernel
theorem dX12_city_215 : decode cX12_city 215 = .ok (.getfield 60, 3) := by decide +kernel
theorem dX12_city_218 : decode cX12_city 218 = .ok (.iload_n 1, 1) := by decide +kernel
theorem dX12_city_219 : decode cX12_city 219 = .ok (.iaload, 1) := by decide +kernel
theorem dX12_city_220 : decode cX12_city 220 = .ok (.iastore, 1) := by decide +kernel
theorem dX12_city_221 : decode cX12_city 221 = .ok (.iinc 1 1, 3) := by decide +kernel
theorem dX12_city_224 : decode cX12_city 224 = .ok (.goto (-32), 3) := by decide +kernel
theorem dX12_city_227 : decode cX12_city 227 = .ok (.iconst 0, 1) := by decide +kernel
theorem dX12_city_228 : decode cX12_city 228 = .ok (.istore_n 1, 1) := by decide +kernel
theorem dX12_city_229 : decode cX12_city 229 = .ok (.iload_n 1, 1) := by decide +kernel
theorem dX12_city_230 : decode cX12_city 230 = .ok (.iconst 4, 1) := by decide +kernel
theorem dX12_city_231 : decode cX12_city 231 = .ok (.if_icmp .ge 33, 3) := by decide +kernel
theorem dX12_city_234 : decode cX12_city 234 = .ok (.aload_n 0, 1) := by decide +kernel
theorem dX12_city_235 : decode cX12_city 235 = .ok (.getfield 90, 3) := by decide +kernel
theorem dX12_city_238 : decode cX12_city 238 = .ok (.iload_n 1, 1) := by decide +kernel
theorem dX12_city_239 : decode cX12_city 239 = .ok (.aload_n 0, 1) := by decide +kernel
theorem dX12_city_240 : decode cX12_city 240 = .ok (.getfield 63, 3) := by decide +kernel
theorem dX12_city_243 : decode cX12_city 243 = .ok (.iload_n 1, 1) := by decide +kernel
theorem dX12_city_244 : decode cX12_city 244 = .ok (.iaload, 1) := by decide +kernel
theorem dX12_city_245 : decode cX12_city 245 = .ok (.iastore, 1) := by decide +kernel
theorem dX12_city_246 : decode cX12_city 246 = .ok (.aload_n 0, 1) := by decide +kernel
theorem dX12_city_247 : decode cX12_city 247 = .ok (.getfield 93, 3) := by decide +kernel
theorem dX12_city_250 : decode cX12_city 250 = .ok (.iload_n 1, 1) := by decide +kernel
theorem dX12_city_251 : decode cX12_city 251 = .ok (.aload_n 0, 1) := by decide +kernel
theorem dX12_city_252 : decode cX12_city 252 = .ok (.getfield 66, 3) := by decide +kernel
theorem dX12_city_255 : decode cX12_city 255 = .ok (.iload_n 1, 1) := by decide +kernel
theorem dX12_city_256 : decode cX12_city 256 = .ok (.iaload, 1) := by decide +kernel
theorem dX12_city_257 : decode cX12_city 257 = .ok (.iastore, 1) := by decide +kernel
theorem dX12_city_258 : decode cX12_city 258 = .ok (.iinc 1 1, 3) := by decide +kernel
theorem dX12_city_261 : decode cX12_city 261 = .ok (.goto (-32), 3) := by decide +kernel
theorem dX12_city_264 : decode cX12_city 264 = .ok (.iconst 0, 1) := by decide +kernel
theorem dX12_city_265 : decode cX12_city 265 = .ok (.istore_n 1, 1) := by decide +kernel
theorem dX12_city_266 : decode cX12_city 266 = .ok (.iload_n 1, 1) := by decide +kernel
theorem dX12_city_267 : decode cX12_city 267 = .ok (.bipush 90, 2) := by decide +kernel
theorem dX12_city_269 : decode cX12_city 269 = .ok (.if_icmp .ge 21, 3) := by decide +kernel
theorem dX12_city_272 : decode cX12_city 272 = .ok (.aload_n 0, 1) := by decide +kernel
theorem dX12_city_273 : decode cX12_city 273 = .ok (.getfield 96, 3) := by decide +kernel
theorem dX12_city_276 : decode cX12_city 276 = .ok (.iload_n 1, 1) := by decide +kernel
theorem dX12_city_277 : decode cX12_city 277 = .ok (.aload_n 0, 1) := by decide +kernel
theorem dX12_city_278 : decode cX12_city 278 = .ok (.getfield 69, 3) := by decide +kernel
theorem dX12_city_281 : decode cX12_city 281 = .ok (.iload_n 1, 1) := by decide +kernel
theorem dX12_city_282 : decode cX12_city 282 = .ok (.iaload, 1) := by decide +kernel
theorem dX12_city_283 : decode cX12_city 283 = .ok (.iastore, 1) := by decide +kernel
theorem dX12_city_284 : decode cX12_city 284 = .ok (.iinc 1 1, 3) := by decide +kernel
theorem dX12_city_287 : decode cX12_city 287 = .ok (.goto (-21), 3) := by decide +kernel
theorem dX12_city_290 : decode cX12_city 290 = .ok (.iconst 0, 1) := by decide +kernel
theorem dX12_city_291 : decode cX12_city 291 = .ok (.istore_n 1, 1) := by decide +kernel
theorem dX12_city_292 : decode cX12_city 292 = .ok (.iload_n 1, 1) := by decide +kernel
theorem dX12_city_293 : decode cX12_city 293 = .ok (.bipush 17, 2) := by decide +kernel
theorem dX12_city_295 : decode cX12_city 295 = .ok (.if_icmp .ge 16, 3) := by decide +kernel
theorem dX12_city_298 : decode cX12_city 298 = .ok (.aload_n 0, 1) := by decide +kernel
theorem dX12_city_299 : decode cX12_city 299 = .ok (.getfield 102, 3) := by decide +kernel
theorem dX12_city_302 : decode cX12_city 302 = .ok (.iload_n 1, 1) := by decide +kernel
theorem dX12_city_303 : decode cX12_city 303 = .ok (.iconst 0, 1) := by decide +kernel
theorem dX12_city_304 : decode cX12_city 304 = .ok (.iastore, 1) := by decide +kernel
theorem dX12_city_305 : decode cX12_city 305 = .ok (.iinc 1 1, 3) := by decide +kernel
theorem dX12_city_308 : decode cX12_city 308 = .ok (.goto (-16), 3) := by decide +kernel
theorem dX12_city_311 : decode cX12_city 311 = .ok (.iconst 0, 1) := by decide +kernel
theorem dX12_city_312 : decode cX12_city 312 = .ok (.istore_n 1, 1) := by decide +kernel
theorem dX12_city_313 : decode cX12_city 313 = .ok (.iload_n 1, 1) := by decide +kernel
theorem dX12_city_314 : decode cX12_city 314 = .ok (.bipush 10, 2) := by decide +kernel
theorem dX12_city_316 : decode cX12_city 316 = .ok (.if_icmp .ge 33, 3) := by decide +kernel
theorem dX12_city_319 : decode cX12_city 319 = .ok (.aload_n 0, 1) := by decide +kernel
theorem dX12_city_320 : decode cX12_city 320 = .ok (.getfield 102, 3) := by decide +kernel
theorem dX12_city_323 : decode cX12_city 323 = .ok (.iload_n 1, 1) := by decide +kernel
theorem dX12_city_324 : decode cX12_city 324 = .ok (.iload_n 1, 1) := by decide +kernel
theorem dX12_city_325 : decode cX12_city 325 = .ok (.aload_n 0, 1) := by decide +kernel
theorem dX12_city_326 : decode cX12_city 326 = .ok (.getfield 419, 3) := by decide +kernel
theorem dX12_city_329 : decode cX12_city 329 = .ok (.if_icmp .ge 12, 3) := by decide +kernel
theorem dX12_city_332 : decode cX12_city 332 = .ok (.aload_n 0, 1) := by decide +kernel
theorem dX12_city_333 : decode cX12_city 333 = .ok (.getfield 81, 3) := by decide +kernel
theorem dX12_city_336 : decode cX12_city 336 = .ok (.iload_n 1, 1) := by decide +kernel
theorem dX12_city_337 : decode cX12_city 337 = .ok (.iaload, 1) := by decide +kernel
theorem dX12_city_338 : decode cX12_city 338 = .ok (.goto 4, 3) := by decide +kernel
theorem dX12_city_341 : decode cX12_city 341 = .ok (.iconst (-1), 1) := by decide +kernel
theorem dX12_city_342 : decode cX12_city 342 = .ok (.iastore, 1) := by decide +kernel
theorem dX12_city_343 : decode cX12_city 343 = .ok (.iinc 1 1, 3) := by decide +kernel
theorem dX12_city_346 : decode cX12_city 346 = .ok (.goto (-33), 3) := by decide +kernel
theorem dX12_city_349 : decode cX12_city 349 = .ok (.aload_n 0, 1) := by decide +kernel
theorem dX12_city_350 : decode cX12_city 350 = .ok (.iconst 0, 1) := by decide +kernel
theorem dX12_city_351 : decode cX12_city 351 = .ok (.putfield 434, 3) := by decide +kernel
theorem dX12_city_354 : decode cX12_city 354 = .ok (.aload_n 0, 1) := by decide +kernel
theorem dX12_city_355 : decode cX12_city 355 = .ok (.iconst 0, 1) := by decide +kernel
theorem dX12_city_356 : decode cX12_city 356 = .ok (.putfield 437, 3) := by decide +kernel
theorem dX12_city_359 : decode cX12_city 359 = .ok (.aload_n 0, 1) := by decide +kernel
theorem dX12_city_360 : decode cX12_city 360 = .ok (.iconst 0, 1) := by decide +kernel
theorem dX12_city_361 : decode cX12_city 361 = .ok (.putfield 440, 3) := by decide +kernel
theorem dX12_city_364 : decode cX12_city 364 = .ok (.aload_n 0, 1) := by decide +kernel
theorem dX12_city_365 : decode cX12_city 365 = .ok (.iconst 0, 1) := by decide +kernel
theorem dX12_city_366 : decode cX12_city 366 = .ok (.putfield 443, 3) := by decide +kernel
theorem dX12_city_369 : decode cX12_city 369 = .ok (.iconst 0, 1) := by decide +kernel
theorem dX12_city_370 : decode cX12_city 370 = .ok (.istore_n 1, 1) := by decide +kernel
theorem dX12_city_371 : decode cX12_city 371 = .ok (.iload_n 1, 1) := by decide +kernel
theorem dX12_city_372 : decode cX12_city 372 = .ok (.iconst 3, 1) := by decide +kernel
theorem dX12_city_373 : decode cX12_city 373 = .ok (.if_icmp .ge 16, 3) := by decide +kernel
theorem dX12_city_376 : decode cX12_city 376 = .ok (.aload_n 0, 1) := by decide +kernel
theorem dX12_city_377 : decode cX12_city 377 = .ok (.getfield 157, 3) := by decide +kernel
theorem dX12_city_380 : decode cX12_city 380 = .ok (.iload_n 1, 1) := by decide +kernel
theorem dX12_city_381 : decode cX12_city 381 = .ok (.iconst 0, 1) := by decide +kernel
theorem dX12_city_382 : decode cX12_city 382 = .ok (.bastore, 1) := by decide +kernel
theorem dX12_city_383 : decode cX12_city 383 = .ok (.iinc 1 1, 3) := by decide +kernel
theorem dX12_city_386 : decode cX12_city 386 = .ok (.goto (-15), 3) := by decide +kernel
theorem dX12_city_389 : decode cX12_city 389 = .ok (.aload_n 0, 1) := by decide +kernel
theorem dX12_city_390 : decode cX12_city 390 = .ok (.getfield 419, 3) := by decide +kernel
theorem dX12_city_393 : decode cX12_city 393 = .ok (.ireturn, 1) := by decide +kernel
theorem wm_X12_readAll : Cond.instanceMethod yX12_readAll ∈ TB ∧ Cond.selects yX12_readAll.cls yX12_readAll yX12_readAll ∈ TB ∧ Cond.initialized yX12_readAll.cls ∈ TB ∧ Cond.code yX12_readAll cX12_readAll 1 none ∈ TB ∧ (yX12_readAll.cls ≠ "java/lang/invoke/MethodHandle" ∧ yX12_readAll.cls ≠ "java/lang/invoke/VarHandle" ∧ (parseMethodDescriptor yX12_readAll.desc).map (fun d => d.parameters.length) = some 0) ∧ 1 ≤ 21 := ⟨tbm 1707 (by decide +kernel) (by decide +kernel), tbm 56 (by decide +kernel) (by decide +kernel), tbm 146 (by decide +kernel) (by decide +kernel), tbm 1708 (by decide +kernel) (by decide +kernel), by decide +kernel, by decide⟩
theorem wi_RX12_413 : Iv RX12 413 yX12_readAll cX12_readAll 1 none 0 := ⟨tbm 1705 (by decide +kernel) (by decide +kernel), wm_X12_readAll⟩
theorem wl_RX12_416 : Cond.fieldLink RX12 416 (TX12 51).1 (TX12 51).2.1 (TX12 51).2.2.1 ∈ TB := tbm 1466 (by decide +kernel) (by decide +kernel)
theorem wl_RX12_419 : Cond.fieldLink RX12 419 (TX12 52).1 (TX12 52).2.1 (TX12 52).2.2.1 ∈ TB := tbm 1467 (by decide +kernel) (by decide +kernel)
theorem wl_RX12_422 : Cond.fieldLink RX12 422 (TX12 53).1 (TX12 53).2.1 (TX12 53).2.2.1 ∈ TB := tbm 1468 (by decide +kernel) (by decide +kernel)
theorem wl_RX12_425 : Cond.fieldLink RX12 425 (TX12 54).1 (TX12 54).2.1 (TX12 54).2.2.1 ∈ TB := tbm 1469 (by decide +kernel) (by decide +kernel)
theorem wl_RX12_99 : Cond.fieldLink RX12 99 (TX12 55).1 (TX12 55).2.1 (TX12 55).2.2.1 ∈ TB := tbm 1470 (by decide +kernel) (by decide +kernel)
theorem wl_RX12_428 : Cond.fieldLink RX12 428 (TX12 59).1 (TX12 59).2.1 (TX12 59).2.2.1 ∈ TB := tbm 1474 (by decide +kernel) (by decide +kernel)
theorem wl_RX12_431 : Cond.fieldLink RX12 431 (TX12 23).1 (TX12 23).2.1 (TX12 23).2.2.1 ∈ TB := tbm 1438 (by decide +kernel) (by decide +kernel)
theorem wl_RX12_72 : Cond.fieldLink RX12 72 (TX12 36).1 (TX12 36).2.1 (TX12 36).2.2.1 ∈ TB := tbm 1451 (by decide +kernel) (by decide +kernel)
theorem wl_RX12_75 : Cond.fieldLink RX12 75 (TX12 37).1 (TX12 37).2.1 (TX12 37).2.2.1 ∈ TB := tbm 1452 (by decide +kernel) (by decide +kernel)
theorem wl_RX12_78 : Cond.fieldLink RX12 78 (TX12 38).1 (TX12 38).2.1 (TX12 38).2.2.1 ∈ TB := tbm 1453 (by decide +kernel) (by decide +kernel)
theorem wl_RX12_81 : Cond.fieldLink RX12 81 (TX12 39).1 (TX12 39).2.1 (TX12 39).2.2.1 ∈ TB := tbm 1454 (by decide +kernel) (by decide +kernel)
theorem wl_RX12_84 : Cond.fieldLink RX12 84 (TX12 40).1 (TX12 40).2.1 (TX12 40).2.2.1 ∈ TB := tbm 1455 (by decide +kernel) (by decide +kernel)
theorem wl_RX12_87 : Cond.fieldLink RX12 87 (TX12 41).1 (TX12 41).2.1 (TX12 41).2.2.1 ∈ TB := tbm 1456 (by decide +kernel) (by decide +kernel)
theorem wl_RX12_90 : Cond.fieldLink RX12 90 (TX12 42).1 (TX12 42).2.1 (TX12 42).2.2.1 ∈ TB := tbm 1457 (by decide +kernel) (by decide +kernel)
theorem wl_RX12_93 : Cond.fieldLink RX12 93 (TX12 43).1 (TX12 43).2.1 (TX12 43).2.2.1 ∈ TB := tbm 1458 (by decide +kernel) (by decide +kernel)
theorem wl_RX12_96 : Cond.fieldLink RX12 96 (TX12 44).1 (TX12 44).2.1 (TX12 44).2.2.1 ∈ TB := tbm 1459 (by decide +kernel) (by decide +kernel)
theorem wl_RX12_102 : Cond.fieldLink RX12 102 (TX12 60).1 (TX12 60).2.1 (TX12 60).2.2.1 ∈ TB := tbm 1475 (by decide +kernel) (by decide +kernel)
theorem wl_RX12_434 : Cond.fieldLink RX12 434 (TX12 68).1 (TX12 68).2.1 (TX12 68).2.2.1 ∈ TB := tbm 1483 (by decide +kernel) (by decide +kernel)
theorem wl_RX12_437 : Cond.fieldLink RX12 437 (TX12 69).1 (TX12 69).2.1 (TX12 69).2.2.1 ∈ TB := tbm 1484 (by decide +kernel) (by decide +kernel)
theorem wl_RX12_440 : Cond.fieldLink RX12 440 (TX12 86).1 (TX12 86).2.1 (TX12 86).2.2.1 ∈ TB := tbm 1501 (by decide +kernel) (by decide +kernel)
theorem wl_RX12_443 : Cond.fieldLink RX12 443 (TX12 71).1 (TX12 71).2.1 (TX12 71).2.2.1 ∈ TB := tbm 1486 (by decide +kernel) (by decide +kernel)
theorem wl_RX12_157 : Cond.fieldLink RX12 157 (TX12 89).1 (TX12 89).2.1 (TX12 89).2.2.1 ∈ TB := tbm 1504 (by decide +kernel) (by decide +kernel)
def mX12_city_L90 (t : Nat) (k128 : St_ → Option (Int32 × St_)) : Nat → Int32 → St_ → Option (Int32 × St_)
  | 0, _, _ => none
  | n + 1, x1, σ => (if (σ.1 t 20) ≤ x1 then
 (k128 σ)
 else (if bin x1 320 = true then bnd (σ.1 (t + 4) x1.toNatClampNeg) fun v13 =>
 (if bin x1 320 = true then bnd (sI σ (t + 6) x1.toNatClampNeg v13) fun σ14 =>
 (if bin x1 320 = true then bnd (σ14.1 (t + 5) x1.toNatClampNeg) fun v15 =>
 (if bin x1 320 = true then bnd (sI σ14 (t + 7) x1.toNatClampNeg v15) fun σ16 =>
 (mX12_city_L90 t k128 n (x1 + 1) σ16)
 else none)
 else none)
 else none)
 else none))
def mX12_city_L130 (t : Nat) (k190 : St_ → Option (Int32 × St_)) : Nat → Int32 → St_ → Option (Int32 × St_)
  | 0, _, _ => none
  | n + 1, x1, σ => (if (10 : Int32) ≤ x1 then
 (k190 σ)
 else (if bin x1 10 = true then bnd (σ.1 (t + 11) x1.toNatClampNeg) fun v18 =>
 (if bin x1 10 = true then bnd (sI σ (t + 20) x1.toNatClampNeg v18) fun σ19 =>
 (if bin x1 10 = true then bnd (σ19.1 (t + 12) x1.toNatClampNeg) fun v20 =>
 (if bin x1 10 = true then bnd (sI σ19 (t + 21) x1.toNatClampNeg v20) fun σ21 =>
 (if bin x1 10 = true then bnd (σ21.1 (t + 13) x1.toNatClampNeg) fun v22 =>
 (if bin x1 10 = true then bnd (sI σ21 (t + 22) x1.toNatClampNeg v22) fun σ23 =>
 (if bin x1 10 = true then bnd (σ23.1 (t + 14) x1.toNatClampNeg) fun v24 =>
 (if bin x1 10 = true then bnd (sI σ23 (t + 23) x1.toNatClampNeg v24) fun σ25 =>
 (mX12_city_L130 t k190 n (x1 + 1) σ25)
 else none)
 else none)
 else none)
 else none)
 else none)
 else none)
 else none)
 else none))
def mX12_city_L192 (t : Nat) (k227 : St_ → Option (Int32 × St_)) : Nat → Int32 → St_ → Option (Int32 × St_)
  | 0, _, _ => none
  | n + 1, x1, σ => (if (5 : Int32) ≤ x1 then
 (k227 σ)
 else (if bin x1 5 = true then bnd (σ.1 (t + 15) x1.toNatClampNeg) fun v27 =>
 (if bin x1 5 = true then bnd (sI σ (t + 24) x1.toNatClampNeg v27) fun σ28 =>
 (if bin x1 5 = true then bnd (σ28.1 (t + 16) x1.toNatClampNeg) fun v29 =>
 (if bin x1 5 = true then bnd (sI σ28 (t + 25) x1.toNatClampNeg v29) fun σ30 =>
 (mX12_city_L192 t k227 n (x1 + 1) σ30)
 else none)
 else none)
 else none)
 else none))
def mX12_city_L229 (t : Nat) (k264 : St_ → Option (Int32 × St_)) : Nat → Int32 → St_ → Option (Int32 × St_)
  | 0, _, _ => none
  | n + 1, x1, σ => (if (4 : Int32) ≤ x1 then
 (k264 σ)
 else (if bin x1 4 = true then bnd (σ.1 (t + 17) x1.toNatClampNeg) fun v32 =>
 (if bin x1 4 = true then bnd (sI σ (t + 26) x1.toNatClampNeg v32) fun σ33 =>
 (if bin x1 4 = true then bnd (σ33.1 (t + 18) x1.toNatClampNeg) fun v34 =>
 (if bin x1 4 = true then bnd (sI σ33 (t + 27) x1.toNatClampNeg v34) fun σ35 =>
 (mX12_city_L229 t k264 n (x1 + 1) σ35)
 else none)
 else none)
 else none)
 else none))
def mX12_city_L266 (t : Nat) (k290 : St_ → Option (Int32 × St_)) : Nat → Int32 → St_ → Option (Int32 × St_)
  | 0, _, _ => none
  | n + 1, x1, σ => (if (90 : Int32) ≤ x1 then
 (k290 σ)
 else (if bin x1 90 = true then bnd (σ.1 (t + 19) x1.toNatClampNeg) fun v37 =>
 (if bin x1 90 = true then bnd (sI σ (t + 28) x1.toNatClampNeg v37) fun σ38 =>
 (mX12_city_L266 t k290 n (x1 + 1) σ38)
 else none)
 else none))
def mX12_city_L292 (t : Nat) (k311 : St_ → Option (Int32 × St_)) : Nat → Int32 → St_ → Option (Int32 × St_)
  | 0, _, _ => none
  | n + 1, x1, σ => (if (17 : Int32) ≤ x1 then
 (k311 σ)
 else (if bin x1 20 = true then bnd (sI σ (t + 29) x1.toNatClampNeg (0 : Int32)) fun σ40 =>
 (mX12_city_L292 t k311 n (x1 + 1) σ40)
 else none))
def mX12_city_L313 (t : Nat) (k349 : St_ → Option (Int32 × St_)) : Nat → Int32 → St_ → Option (Int32 × St_)
  | 0, _, _ => none
  | n + 1, x1, σ => (if (10 : Int32) ≤ x1 then
 (k349 σ)
 else (bnd (fun (j42 : Int32) => (if bin x1 20 = true then bnd (sI σ (t + 29) x1.toNatClampNeg j42) fun σ45 =>
 (mX12_city_L313 t k349 n (x1 + 1) σ45)
 else none)) fun k43 =>
 (if (σ.1 t 52) ≤ x1 then
 (k43 (-1 : Int32))
 else (if bin x1 10 = true then bnd (σ.1 (t + 23) x1.toNatClampNeg) fun v46 =>
 (k43 v46)
 else none))))
def mX12_city_L371 (t : Nat) : Nat → Int32 → St_ → Option (Int32 × St_)
  | 0, _, _ => none
  | n + 1, x1, σ => (if (3 : Int32) ≤ x1 then
 (some ((σ.1 t 52), σ))
 else (if bin x1 3 = true then bnd (sI σ (t + 45) x1.toNatClampNeg (b2i false)) fun σ52 =>
 (mX12_city_L371 t n (x1 + 1) σ52)
 else none))
def mX12_city (t : Nat) (σ : St_) : Option (Int32 × St_) :=
 ((mX12_readAll t σ).bind fun σ1 =>
 (if (σ1.1 t 2) ≤ 0 then
 (bnd (sI σ1 t 51 (σ1.1 t 45)) fun σ2 =>
 (bnd (sI σ2 t 52 (σ2.1 t 46)) fun σ3 =>
 (bnd (sI σ3 t 53 (σ3.1 t 47)) fun σ4 =>
 (bnd (sI σ4 t 54 (σ4.1 t 48)) fun σ5 =>
 (bnd (sI σ5 t 55 (σ5.1 t 50)) fun σ6 =>
 (if isB (σ6.1 t 58) = true then bnd (sI σ6 t 59 (σ6.1 t 58)) fun σ7 =>
 (bnd (sI σ7 t 23 (σ7.1 t 22)) fun σ8 =>
 (bnd (fun (j9 : Int32) => (bnd (sI σ8 t 20 j9) fun σ12 =>
 (mX12_city_L90 t
 (fun (σ17 : St_) => (mX12_city_L130 t
 (fun (σ26 : St_) => (mX12_city_L192 t
 (fun (σ31 : St_) => (mX12_city_L229 t
 (fun (σ36 : St_) => (mX12_city_L266 t
 (fun (σ39 : St_) => (mX12_city_L292 t
 (fun (σ41 : St_) => (mX12_city_L313 t
 (fun (σ47 : St_) => (bnd (sI σ47 t 68 (0 : Int32)) fun σ48 =>
 (bnd (sI σ48 t 69 (0 : Int32)) fun σ49 =>
 (bnd (sI σ49 t 86 (0 : Int32)) fun σ50 =>
 (bnd (sI σ50 t 71 (0 : Int32)) fun σ51 =>
 (mX12_city_L371 t FU (0 : Int32) σ51)))))) FU (0 : Int32) σ41)) FU (0 : Int32) σ39)) FU (0 : Int32) σ36)) FU (0 : Int32) σ31)) FU (0 : Int32) σ26)) FU (0 : Int32) σ17)) FU (0 : Int32) σ12))) fun k10 =>
 (if (σ8.1 t 58) = 0 then
 (k10 (0 : Int32))
 else (k10 (σ8.1 t 19)))))
 else none))))))
 else (some ((-1 : Int32), σ1))))
set_option maxHeartbeats 4000000 in
theorem tmX12_city_L90 (t : Nat) (hT : LY12 sh P t) (k128 : St_ → Option (Int32 × St_)) (hk128 : ∀ (σ1 : St_), Tj l D cA h0 ad RX12 cX12_city 2 (some .int) false 9 0 0 (fun b => (some (.int b.1), sh, P, b.2)) 0 0 sh P σ1 128 [(0, .ref (h0 + t))] [] (k128 σ1)) : ∀ (n : Nat) (x1 : Int32) (σ : St_), Tj l D cA h0 ad RX12 cX12_city 2 (some .int) false 9 0 0 (fun b => (some (.int b.1), sh, P, b.2)) 0 0 sh P σ 90 [(0, .ref (h0 + t)), (1, .int x1)] [] (mX12_city_L90 t k128 n x1 σ) := by
  intro n
  induction n with
  | zero => intros; exact tj_none
  | succ n ih =>
    intro x1 σ
    rw [mX12_city_L90]
    refine tj_iload_n (q := 91) dX12_city_90 rfl (i := 1) rfl (pl := 1) rfl ?_
    refine tj_aload_n (q := 92) dX12_city_91 rfl (i := 0) rfl (pl := 0) rfl ?_
    refine tj_getI (q := 95) (hT).s fok_12_20 wl_RX12_341 dX12_city_92 rfl ?_
    refine tj_icmp_ge (tgt := 128) (q := 98) dX12_city_95 (by decide) rfl ?_ ?_
    · refine tj_lv [0] rfl ?_
      exact hk128 σ
    · refine tj_aload_n (q := 99) dX12_city_98 rfl (i := 0) rfl (pl := 0) rfl ?_
      refine tj_getR (q := 102) (hT).s (hT).p_step fok_12_15 wl_RX12_30 dX12_city_99 rfl ?_
      refine tj_iload_n (q := 103) dX12_city_102 rfl (i := 1) rfl (pl := 1) rfl ?_
      refine tj_aload_n (q := 104) dX12_city_103 rfl (i := 0) rfl (pl := 0) rfl ?_
      refine tj_getR (q := 107) (hT).s (hT).p_nStep fok_12_13 wl_RX12_24 dX12_city_104 rfl ?_
      refine tj_iload_n (q := 108) dX12_city_107 rfl (i := 1) rfl (pl := 1) rfl ?_
      refine tj_iaload (q := 109) (hT).s_nStep dX12_city_108 rfl ?_
      refine tj_topI (fun v13 => ?_)
      refine tj_iastore (q := 110) (hT).s_step dX12_city_109 rfl (fun σ14 => ?_)
      refine tj_aload_n (q := 111) dX12_city_110 rfl (i := 0) rfl (pl := 0) rfl ?_
      refine tj_getR (q := 114) (hT).s (hT).p_arg fok_12_16 wl_RX12_33 dX12_city_111 rfl ?_
      refine tj_iload_n (q := 115) dX12_city_114 rfl (i := 1) rfl (pl := 1) rfl ?_
      refine tj_aload_n (q := 116) dX12_city_115 rfl (i := 0) rfl (pl := 0) rfl ?_
      refine tj_getR (q := 119) (hT).s (hT).p_nArg fok_12_14 wl_RX12_27 dX12_city_116 rfl ?_
      refine tj_iload_n (q := 120) dX12_city_119 rfl (i := 1) rfl (pl := 1) rfl ?_
      refine tj_iaload (q := 121) (hT).s_nArg dX12_city_120 rfl ?_
      refine tj_topI (fun v15 => ?_)
      refine tj_iastore (q := 122) (hT).s_arg dX12_city_121 rfl (fun σ16 => ?_)
      refine tj_iinc (q := 125) (v := x1 + 1) dX12_city_122 rfl (pl := 1) rfl rfl (by decide) rfl ?_
      refine tj_goto (q := 90) dX12_city_125 (by decide) ?_
      refine tj_lv [1, 0] rfl ?_
      exact ih (x1 + 1) σ16

set_option maxHeartbeats 4000000 in
theorem tmX12_city_L130 (t : Nat) (hT : LY12 sh P t) (k190 : St_ → Option (Int32 × St_)) (hk190 : ∀ (σ1 : St_), Tj l D cA h0 ad RX12 cX12_city 2 (some .int) false 9 0 0 (fun b => (some (.int b.1), sh, P, b.2)) 0 0 sh P σ1 190 [(0, .ref (h0 + t))] [] (k190 σ1)) : ∀ (n : Nat) (x1 : Int32) (σ : St_), Tj l D cA h0 ad RX12 cX12_city 2 (some .int) false 9 0 0 (fun b => (some (.int b.1), sh, P, b.2)) 0 0 sh P σ 130 [(0, .ref (h0 + t)), (1, .int x1)] [] (mX12_city_L130 t k190 n x1 σ) := by
  intro n
  induction n with
  | zero => intros; exact tj_none
  | succ n ih =>
    intro x1 σ
    rw [mX12_city_L130]
    refine tj_iload_n (q := 131) dX12_city_130 rfl (i := 1) rfl (pl := 1) rfl ?_
    refine tj_bipush (q := 133) (v := 10) dX12_city_131 rfl (by decide) ?_
    refine tj_icmp_ge (tgt := 190) (q := 136) dX12_city_133 (by decide) rfl ?_ ?_
    · refine tj_lv [0] rfl ?_
      exact hk190 σ
    · refine tj_aload_n (q := 137) dX12_city_136 rfl (i := 0) rfl (pl := 0) rfl ?_
      refine tj_getR (q := 140) (hT).s (hT).p_kindOf fok_12_36 wl_RX12_72 dX12_city_137 rfl ?_
      refine tj_iload_n (q := 141) dX12_city_140 rfl (i := 1) rfl (pl := 1) rfl ?_
      refine tj_aload_n (q := 142) dX12_city_141 rfl (i := 0) rfl (pl := 0) rfl ?_
      refine tj_getR (q := 145) (hT).s (hT).p_nKindOf fok_12_27 wl_RX12_45 dX12_city_142 rfl ?_
      refine tj_iload_n (q := 146) dX12_city_145 rfl (i := 1) rfl (pl := 1) rfl ?_
      refine tj_iaload (q := 147) (hT).s_nKindOf dX12_city_146 rfl ?_
      refine tj_topI (fun v18 => ?_)
      refine tj_iastore (q := 148) (hT).s_kindOf dX12_city_147 rfl (fun σ19 => ?_)
      refine tj_aload_n (q := 149) dX12_city_148 rfl (i := 0) rfl (pl := 0) rfl ?_
      refine tj_getR (q := 152) (hT).s (hT).p_weight fok_12_37 wl_RX12_75 dX12_city_149 rfl ?_
      refine tj_iload_n (q := 153) dX12_city_152 rfl (i := 1) rfl (pl := 1) rfl ?_
      refine tj_aload_n (q := 154) dX12_city_153 rfl (i := 0) rfl (pl := 0) rfl ?_
      refine tj_getR (q := 157) (hT).s (hT).p_nWeight fok_12_28 wl_RX12_48 dX12_city_154 rfl ?_
      refine tj_iload_n (q := 158) dX12_city_157 rfl (i := 1) rfl (pl := 1) rfl ?_
      refine tj_iaload (q := 159) (hT).s_nWeight dX12_city_158 rfl ?_
      refine tj_topI (fun v20 => ?_)
      refine tj_iastore (q := 160) (hT).s_weight dX12_city_159 rfl (fun σ21 => ?_)
      refine tj_aload_n (q := 161) dX12_city_160 rfl (i := 0) rfl (pl := 0) rfl ?_
      refine tj_getR (q := 164) (hT).s (hT).p_worth fok_12_38 wl_RX12_78 dX12_city_161 rfl ?_
      refine tj_iload_n (q := 165) dX12_city_164 rfl (i := 1) rfl (pl := 1) rfl ?_
      refine tj_aload_n (q := 166) dX12_city_165 rfl (i := 0) rfl (pl := 0) rfl ?_
      refine tj_getR (q := 169) (hT).s (hT).p_nWorth fok_12_29 wl_RX12_51 dX12_city_166 rfl ?_
      refine tj_iload_n (q := 170) dX12_city_169 rfl (i := 1) rfl (pl := 1) rfl ?_
      refine tj_iaload (q := 171) (hT).s_nWorth dX12_city_170 rfl ?_
      refine tj_topI (fun v22 => ?_)
      refine tj_iastore (q := 172) (hT).s_worth dX12_city_171 rfl (fun σ23 => ?_)
      refine tj_aload_n (q := 173) dX12_city_172 rfl (i := 0) rfl (pl := 0) rfl ?_
      refine tj_getR (q := 176) (hT).s (hT).p_atTold fok_12_39 wl_RX12_81 dX12_city_173 rfl ?_
      refine tj_iload_n (q := 177) dX12_city_176 rfl (i := 1) rfl (pl := 1) rfl ?_
      refine tj_aload_n (q := 178) dX12_city_177 rfl (i := 0) rfl (pl := 0) rfl ?_
      refine tj_getR (q := 181) (hT).s (hT).p_nAt fok_12_30 wl_RX12_54 dX12_city_178 rfl ?_
      refine tj_iload_n (q := 182) dX12_city_181 rfl (i := 1) rfl (pl := 1) rfl ?_
      refine tj_iaload (q := 183) (hT).s_nAt dX12_city_182 rfl ?_
      refine tj_topI (fun v24 => ?_)
      refine tj_iastore (q := 184) (hT).s_atTold dX12_city_183 rfl (fun σ25 => ?_)
      refine tj_iinc (q := 187) (v := x1 + 1) dX12_city_184 rfl (pl := 1) rfl rfl (by decide) rfl ?_
      refine tj_goto (q := 130) dX12_city_187 (by decide) ?_
      refine tj_lv [1, 0] rfl ?_
      exact ih (x1 + 1) σ25

set_option maxHeartbeats 4000000 in
theorem tmX12_city_L192 (t : Nat) (hT : LY12 sh P t) (k227 : St_ → Option (Int32 × St_)) (hk227 : ∀ (σ1 : St_), Tj l D cA h0 ad RX12 cX12_city 2 (some .int) false 9 0 0 (fun b => (some (.int b.1), sh, P, b.2)) 0 0 sh P σ1 227 [(0, .ref (h0 + t))] [] (k227 σ1)) : ∀ (n : Nat) (x1 : Int32) (σ : St_), Tj l D cA h0 ad RX12 cX12_city 2 (some .int) false 9 0 0 (fun b => (some (.int b.1), sh, P, b.2)) 0 0 sh P σ 192 [(0, .ref (h0 + t)), (1, .int x1)] [] (mX12_city_L192 t k227 n x1 σ) := by
  intro n
  induction n with
  | zero => intros; exact tj_none
  | succ n ih =>
    intro x1 σ
    rw [mX12_city_L192]
    refine tj_iload_n (q := 193) dX12_city_192 rfl (i := 1) rfl (pl := 1) rfl ?_
    refine tj_iconst (q := 194) (v := 5) dX12_city_193 rfl (by decide) ?_
    refine tj_icmp_ge (tgt := 227) (q := 197) dX12_city_194 (by decide) rfl ?_ ?_
    · refine tj_lv [0] rfl ?_
      exact hk227 σ
    · refine tj_aload_n (q := 198) dX12_city_197 rfl (i := 0) rfl (pl := 0) rfl ?_
      refine tj_getR (q := 201) (hT).s (hT).p_lock fok_12_40 wl_RX12_84 dX12_city_198 rfl ?_
      refine tj_iload_n (q := 202) dX12_city_201 rfl (i := 1) rfl (pl := 1) rfl ?_
      refine tj_aload_n (q := 203) dX12_city_202 rfl (i := 0) rfl (pl := 0) rfl ?_
      refine tj_getR (q := 206) (hT).s (hT).p_nLock fok_12_31 wl_RX12_57 dX12_city_203 rfl ?_
      refine tj_iload_n (q := 207) dX12_city_206 rfl (i := 1) rfl (pl := 1) rfl ?_
      refine tj_iaload (q := 208) (hT).s_nLock dX12_city_207 rfl ?_
      refine tj_topI (fun v27 => ?_)
      refine tj_iastore (q := 209) (hT).s_lock dX12_city_208 rfl (fun σ28 => ?_)
      refine tj_aload_n (q := 210) dX12_city_209 rfl (i := 0) rfl (pl := 0) rfl ?_
      refine tj_getR (q := 213) (hT).s (hT).p_watch fok_12_41 wl_RX12_87 dX12_city_210 rfl ?_
      refine tj_iload_n (q := 214) dX12_city_213 rfl (i := 1) rfl (pl := 1) rfl ?_
      refine tj_aload_n (q := 215) dX12_city_214 rfl (i := 0) rfl (pl := 0) rfl ?_
      refine tj_getR (q := 218) (hT).s (hT).p_nWatch fok_12_32 wl_RX12_60 dX12_city_215 rfl ?_
      refine tj_iload_n (q := 219) dX12_city_218 rfl (i := 1) rfl (pl := 1) rfl ?_
      refine tj_iaload (q := 220) (hT).s_nWatch dX12_city_219 rfl ?_
      refine tj_topI (fun v29 => ?_)
      refine tj_iastore (q := 221) (hT).s_watch dX12_city_220 rfl (fun σ30 => ?_)
      refine tj_iinc (q := 224) (v := x1 + 1) dX12_city_221 rfl (pl := 1) rfl rfl (by decide) rfl ?_
      refine tj_goto (q := 192) dX12_city_224 (by decide) ?_
      refine tj_lv [1, 0] rfl ?_
      exact ih (x1 + 1) σ30

set_option maxHeartbeats 4000000 in
theorem tmX12_city_L229 (t : Nat) (hT : LY12 sh P t) (k264 : St_ → Option (Int32 × St_)) (hk264 : ∀ (σ1 : St_), Tj l D cA h0 ad RX12 cX12_city 2 (some .int) false 9 0 0 (fun b => (some (.int b.1), sh, P, b.2)) 0 0 sh P σ1 264 [(0, .ref (h0 + t))] [] (k264 σ1)) : ∀ (n : Nat) (x1 : Int32) (σ : St_), Tj l D cA h0 ad RX12 cX12_city 2 (some .int) false 9 0 0 (fun b => (some (.int b.1), sh, P, b.2)) 0 0 sh P σ 229 [(0, .ref (h0 + t)), (1, .int x1)] [] (mX12_city_L229 t k264 n x1 σ) := by
  intro n
  induction n with
  | zero => intros; exact tj_none
  | succ n ih =>
    intro x1 σ
    rw [mX12_city_L229]
    refine tj_iload_n (q := 230) dX12_city_229 rfl (i := 1) rfl (pl := 1) rfl ?_
    refine tj_iconst (q := 231) (v := 4) dX12_city_230 rfl (by decide) ?_
    refine tj_icmp_ge (tgt := 264) (q := 234) dX12_city_231 (by decide) rfl ?_ ?_
    · refine tj_lv [0] rfl ?_
      exact hk264 σ
    · refine tj_aload_n (q := 235) dX12_city_234 rfl (i := 0) rfl (pl := 0) rfl ?_
      refine tj_getR (q := 238) (hT).s (hT).p_sack fok_12_42 wl_RX12_90 dX12_city_235 rfl ?_
      refine tj_iload_n (q := 239) dX12_city_238 rfl (i := 1) rfl (pl := 1) rfl ?_
      refine tj_aload_n (q := 240) dX12_city_239 rfl (i := 0) rfl (pl := 0) rfl ?_
      refine tj_getR (q := 243) (hT).s (hT).p_nSack fok_12_33 wl_RX12_63 dX12_city_240 rfl ?_
      refine tj_iload_n (q := 244) dX12_city_243 rfl (i := 1) rfl (pl := 1) rfl ?_
      refine tj_iaload (q := 245) (hT).s_nSack dX12_city_244 rfl ?_
      refine tj_topI (fun v32 => ?_)
      refine tj_iastore (q := 246) (hT).s_sack dX12_city_245 rfl (fun σ33 => ?_)
      refine tj_aload_n (q := 247) dX12_city_246 rfl (i := 0) rfl (pl := 0) rfl ?_
      refine tj_getR (q := 250) (hT).s (hT).p_skill fok_12_43 wl_RX12_93 dX12_city_247 rfl ?_
      refine tj_iload_n (q := 251) dX12_city_250 rfl (i := 1) rfl (pl := 1) rfl ?_
      refine tj_aload_n (q := 252) dX12_city_251 rfl (i := 0) rfl (pl := 0) rfl ?_
      refine tj_getR (q := 255) (hT).s (hT).p_nSkill fok_12_34 wl_RX12_66 dX12_city_252 rfl ?_
      refine tj_iload_n (q := 256) dX12_city_255 rfl (i := 1) rfl (pl := 1) rfl ?_
      refine tj_iaload (q := 257) (hT).s_nSkill dX12_city_256 rfl ?_
      refine tj_topI (fun v34 => ?_)
      refine tj_iastore (q := 258) (hT).s_skill dX12_city_257 rfl (fun σ35 => ?_)
      refine tj_iinc (q := 261) (v := x1 + 1) dX12_city_258 rfl (pl := 1) rfl rfl (by decide) rfl ?_
      refine tj_goto (q := 229) dX12_city_261 (by decide) ?_
      refine tj_lv [1, 0] rfl ?_
      exact ih (x1 + 1) σ35

set_option maxHeartbeats 4000000 in
theorem tmX12_city_L266 (t : Nat) (hT : LY12 sh P t) (k290 : St_ → Option (Int32 × St_)) (hk290 : ∀ (σ1 : St_), Tj l D cA h0 ad RX12 cX12_city 2 (some .int) false 9 0 0 (fun b => (some (.int b.1), sh, P, b.2)) 0 0 sh P σ1 290 [(0, .ref (h0 + t))] [] (k290 σ1)) : ∀ (n : Nat) (x1 : Int32) (σ : St_), Tj l D cA h0 ad RX12 cX12_city 2 (some .int) false 9 0 0 (fun b => (some (.int b.1), sh, P, b.2)) 0 0 sh P σ 266 [(0, .ref (h0 + t)), (1, .int x1)] [] (mX12_city_L266 t k290 n x1 σ) := by
  intro n
  induction n with
  | zero => intros; exact tj_none
  | succ n ih =>
    intro x1 σ
    rw [mX12_city_L266]
    refine tj_iload_n (q := 267) dX12_city_266 rfl (i := 1) rfl (pl := 1) rfl ?_
    refine tj_bipush (q := 269) (v := 90) dX12_city_267 rfl (by decide) ?_
    refine tj_icmp_ge (tgt := 290) (q := 272) dX12_city_269 (by decide) rfl ?_ ?_
    · refine tj_lv [0] rfl ?_
      exact hk290 σ
    · refine tj_aload_n (q := 273) dX12_city_272 rfl (i := 0) rfl (pl := 0) rfl ?_
      refine tj_getR (q := 276) (hT).s (hT).p_dear fok_12_44 wl_RX12_96 dX12_city_273 rfl ?_
      refine tj_iload_n (q := 277) dX12_city_276 rfl (i := 1) rfl (pl := 1) rfl ?_
      refine tj_aload_n (q := 278) dX12_city_277 rfl (i := 0) rfl (pl := 0) rfl ?_
      refine tj_getR (q := 281) (hT).s (hT).p_nDear fok_12_35 wl_RX12_69 dX12_city_278 rfl ?_
      refine tj_iload_n (q := 282) dX12_city_281 rfl (i := 1) rfl (pl := 1) rfl ?_
      refine tj_iaload (q := 283) (hT).s_nDear dX12_city_282 rfl ?_
      refine tj_topI (fun v37 => ?_)
      refine tj_iastore (q := 284) (hT).s_dear dX12_city_283 rfl (fun σ38 => ?_)
      refine tj_iinc (q := 287) (v := x1 + 1) dX12_city_284 rfl (pl := 1) rfl rfl (by decide) rfl ?_
      refine tj_goto (q := 266) dX12_city_287 (by decide) ?_
      refine tj_lv [1, 0] rfl ?_
      exact ih (x1 + 1) σ38

set_option maxHeartbeats 4000000 in
theorem tmX12_city_L292 (t : Nat) (hT : LY12 sh P t) (k311 : St_ → Option (Int32 × St_)) (hk311 : ∀ (σ1 : St_), Tj l D cA h0 ad RX12 cX12_city 2 (some .int) false 9 0 0 (fun b => (some (.int b.1), sh, P, b.2)) 0 0 sh P σ1 311 [(0, .ref (h0 + t))] [] (k311 σ1)) : ∀ (n : Nat) (x1 : Int32) (σ : St_), Tj l D cA h0 ad RX12 cX12_city 2 (some .int) false 9 0 0 (fun b => (some (.int b.1), sh, P, b.2)) 0 0 sh P σ 292 [(0, .ref (h0 + t)), (1, .int x1)] [] (mX12_city_L292 t k311 n x1 σ) := by
  intro n
  induction n with
  | zero => intros; exact tj_none
  | succ n ih =>
    intro x1 σ
    rw [mX12_city_L292]
    refine tj_iload_n (q := 293) dX12_city_292 rfl (i := 1) rfl (pl := 1) rfl ?_
    refine tj_bipush (q := 295) (v := 17) dX12_city_293 rfl (by decide) ?_
    refine tj_icmp_ge (tgt := 311) (q := 298) dX12_city_295 (by decide) rfl ?_ ?_
    · refine tj_lv [0] rfl ?_
      exact hk311 σ
    · refine tj_aload_n (q := 299) dX12_city_298 rfl (i := 0) rfl (pl := 0) rfl ?_
      refine tj_getR (q := 302) (hT).s (hT).p_now fok_12_60 wl_RX12_102 dX12_city_299 rfl ?_
      refine tj_iload_n (q := 303) dX12_city_302 rfl (i := 1) rfl (pl := 1) rfl ?_
      refine tj_iconst (q := 304) (v := 0) dX12_city_303 rfl (by decide) ?_
      refine tj_iastore (q := 305) (hT).s_now dX12_city_304 rfl (fun σ40 => ?_)
      refine tj_iinc (q := 308) (v := x1 + 1) dX12_city_305 rfl (pl := 1) rfl rfl (by decide) rfl ?_
      refine tj_goto (q := 292) dX12_city_308 (by decide) ?_
      refine tj_lv [1, 0] rfl ?_
      exact ih (x1 + 1) σ40

set_option maxHeartbeats 4000000 in
theorem tmX12_city_L313 (t : Nat) (hT : LY12 sh P t) (k349 : St_ → Option (Int32 × St_)) (hk349 : ∀ (σ1 : St_), Tj l D cA h0 ad RX12 cX12_city 2 (some .int) false 9 0 0 (fun b => (some (.int b.1), sh, P, b.2)) 0 0 sh P σ1 349 [(0, .ref (h0 + t))] [] (k349 σ1)) : ∀ (n : Nat) (x1 : Int32) (σ : St_), Tj l D cA h0 ad RX12 cX12_city 2 (some .int) false 9 0 0 (fun b => (some (.int b.1), sh, P, b.2)) 0 0 sh P σ 313 [(0, .ref (h0 + t)), (1, .int x1)] [] (mX12_city_L313 t k349 n x1 σ) := by
  intro n
  induction n with
  | zero => intros; exact tj_none
  | succ n ih =>
    intro x1 σ
    rw [mX12_city_L313]
    refine tj_iload_n (q := 314) dX12_city_313 rfl (i := 1) rfl (pl := 1) rfl ?_
    refine tj_bipush (q := 316) (v := 10) dX12_city_314 rfl (by decide) ?_
    refine tj_icmp_ge (tgt := 349) (q := 319) dX12_city_316 (by decide) rfl ?_ ?_
    · refine tj_lv [0] rfl ?_
      exact hk349 σ
    · refine tj_aload_n (q := 320) dX12_city_319 rfl (i := 0) rfl (pl := 0) rfl ?_
      refine tj_getR (q := 323) (hT).s (hT).p_now fok_12_60 wl_RX12_102 dX12_city_320 rfl ?_
      refine tj_iload_n (q := 324) dX12_city_323 rfl (i := 1) rfl (pl := 1) rfl ?_
      refine tj_iload_n (q := 325) dX12_city_324 rfl (i := 1) rfl (pl := 1) rfl ?_
      refine tj_aload_n (q := 326) dX12_city_325 rfl (i := 0) rfl (pl := 0) rfl ?_
      refine tj_getI (q := 329) (hT).s fok_12_52 wl_RX12_419 dX12_city_326 rfl ?_
      refine tj_bnd (fun k43 => ∀ (j42 : Int32), Tj l D cA h0 ad RX12 cX12_city 2 (some .int) false 9 0 0 (fun b => (some (.int b.1), sh, P, b.2)) 0 0 sh P σ 342 [(0, .ref (h0 + t)), (1, .int x1)] [.int j42, .int x1, .ref (h0 + (t + 29))] (k43 j42)) ?_ (fun k43 hk44 => ?_)
      · intro j42
        refine tj_iastore (q := 343) (hT).s_now dX12_city_342 rfl (fun σ45 => ?_)
        refine tj_iinc (q := 346) (v := x1 + 1) dX12_city_343 rfl (pl := 1) rfl rfl (by decide) rfl ?_
        refine tj_goto (q := 313) dX12_city_346 (by decide) ?_
        refine tj_lv [1, 0] rfl ?_
        exact ih (x1 + 1) σ45
      · refine tj_icmp_ge (tgt := 341) (q := 332) dX12_city_329 (by decide) rfl ?_ ?_
        · refine tj_iconst (q := 342) (v := (-1)) dX12_city_341 rfl (by decide) ?_
          exact hk44 (-1 : Int32)
        · refine tj_aload_n (q := 333) dX12_city_332 rfl (i := 0) rfl (pl := 0) rfl ?_
          refine tj_getR (q := 336) (hT).s (hT).p_atTold fok_12_39 wl_RX12_81 dX12_city_333 rfl ?_
          refine tj_iload_n (q := 337) dX12_city_336 rfl (i := 1) rfl (pl := 1) rfl ?_
          refine tj_iaload (q := 338) (hT).s_atTold dX12_city_337 rfl ?_
          refine tj_topI (fun v46 => ?_)
          refine tj_goto (q := 342) dX12_city_338 (by decide) ?_
          exact hk44 v46

set_option maxHeartbeats 4000000 in
theorem tmX12_city_L371 (t : Nat) (hT : LY12 sh P t) : ∀ (n : Nat) (x1 : Int32) (σ : St_), Tj l D cA h0 ad RX12 cX12_city 2 (some .int) false 9 0 0 (fun b => (some (.int b.1), sh, P, b.2)) 0 0 sh P σ 371 [(0, .ref (h0 + t)), (1, .int x1)] [] (mX12_city_L371 t n x1 σ) := by
  intro n
  induction n with
  | zero => intros; exact tj_none
  | succ n ih =>
    intro x1 σ
    rw [mX12_city_L371]
    refine tj_iload_n (q := 372) dX12_city_371 rfl (i := 1) rfl (pl := 1) rfl ?_
    refine tj_iconst (q := 373) (v := 3) dX12_city_372 rfl (by decide) ?_
    refine tj_icmp_ge (tgt := 389) (q := 376) dX12_city_373 (by decide) rfl ?_ ?_
    · refine tj_aload_n (q := 390) dX12_city_389 rfl (i := 0) rfl (pl := 0) rfl ?_
      refine tj_getI (q := 393) (hT).s fok_12_52 wl_RX12_419 dX12_city_390 rfl ?_
      exact tj_iret rfl rfl (Nat.le_of_ble_eq_true rfl) (Nat.le_of_ble_eq_true rfl) dX12_city_393
    · refine tj_aload_n (q := 377) dX12_city_376 rfl (i := 0) rfl (pl := 0) rfl ?_
      refine tj_getR (q := 380) (hT).s (hT).p_hasBox fok_12_89 wl_RX12_157 dX12_city_377 rfl ?_
      refine tj_iload_n (q := 381) dX12_city_380 rfl (i := 1) rfl (pl := 1) rfl ?_
      refine tj_iconst (q := 382) (v := 0) dX12_city_381 rfl (by decide) ?_
      refine tj_zastore (x := false) (q := 383) (hT).s_hasBox dX12_city_382 rfl (fun σ52 => ?_)
      refine tj_iinc (q := 386) (v := x1 + 1) dX12_city_383 rfl (pl := 1) rfl rfl (by decide) rfl ?_
      refine tj_goto (q := 371) dX12_city_386 (by decide) ?_
      refine tj_lv [1, 0] rfl ?_
      exact ih (x1 + 1) σ52

set_option maxHeartbeats 4000000 in
theorem rX12_city (t : Nat) (hT : LY12 sh P t) : Rj l D cA h0 ad yX12_city cX12_city 2 (some .int) false 9 0 0 (fun b => (some (.int b.1), sh, P, b.2)) [.ref (h0 + t)] sh P σ (mX12_city t σ) := by
  rw [mX12_city]
  refine Rj.of (by decide) (fun h => by cases h) (Nat.le_of_ble_eq_true rfl) ?_
  refine tj_lv0 (lv' := [(0, .ref (h0 + t))]) rfl ?_
  refine tj_aload_n (q := 1) dX12_city_0 rfl (i := 0) rfl (pl := 0) rfl ?_
  refine tj_callV (q := 4) (kj_V (As := []) (rest := []) (t := t) wi_RX12_413 (hT).s rfl (rX12_readAll t (hT)) rfl (Nat.le_of_ble_eq_true rfl) ⟨Nat.le_of_ble_eq_true rfl, Nat.le_of_ble_eq_true rfl⟩ (Nat.le_of_ble_eq_true rfl) dX12_city_1) rfl (fun σ1 => ?_)
  refine tj_aload_n (q := 5) dX12_city_4 rfl (i := 0) rfl (pl := 0) rfl ?_
  refine tj_getI (q := 8) (hT).s fok_12_2 wl_RX12_203 dX12_city_5 rfl ?_
  refine tj_if_le (tgt := 13) (q := 11) dX12_city_8 (by decide) rfl ?_ ?_
  · refine tj_aload_n (q := 14) dX12_city_13 rfl (i := 0) rfl (pl := 0) rfl ?_
    refine tj_aload_n (q := 15) dX12_city_14 rfl (i := 0) rfl (pl := 0) rfl ?_
    refine tj_getI (q := 18) (hT).s fok_12_45 wl_RX12_348 dX12_city_15 rfl ?_
    refine tj_putI (q := 21) (hT).s fok_12_51 tok_12 fpk_12_51 wl_RX12_416 dX12_city_18 rfl (fun σ2 => ?_)
    refine tj_aload_n (q := 22) dX12_city_21 rfl (i := 0) rfl (pl := 0) rfl ?_
    refine tj_aload_n (q := 23) dX12_city_22 rfl (i := 0) rfl (pl := 0) rfl ?_
    refine tj_getI (q := 26) (hT).s fok_12_46 wl_RX12_354 dX12_city_23 rfl ?_
    refine tj_putI (q := 29) (hT).s fok_12_52 tok_12 fpk_12_52 wl_RX12_419 dX12_city_26 rfl (fun σ3 => ?_)
    refine tj_aload_n (q := 30) dX12_city_29 rfl (i := 0) rfl (pl := 0) rfl ?_
    refine tj_aload_n (q := 31) dX12_city_30 rfl (i := 0) rfl (pl := 0) rfl ?_
    refine tj_getI (q := 34) (hT).s fok_12_47 wl_RX12_367 dX12_city_31 rfl ?_
    refine tj_putI (q := 37) (hT).s fok_12_53 tok_12 fpk_12_53 wl_RX12_422 dX12_city_34 rfl (fun σ4 => ?_)
    refine tj_aload_n (q := 38) dX12_city_37 rfl (i := 0) rfl (pl := 0) rfl ?_
    refine tj_aload_n (q := 39) dX12_city_38 rfl (i := 0) rfl (pl := 0) rfl ?_
    refine tj_getI (q := 42) (hT).s fok_12_48 wl_RX12_376 dX12_city_39 rfl ?_
    refine tj_putI (q := 45) (hT).s fok_12_54 tok_12 fpk_12_54 wl_RX12_425 dX12_city_42 rfl (fun σ5 => ?_)
    refine tj_aload_n (q := 46) dX12_city_45 rfl (i := 0) rfl (pl := 0) rfl ?_
    refine tj_aload_n (q := 47) dX12_city_46 rfl (i := 0) rfl (pl := 0) rfl ?_
    refine tj_getI (q := 50) (hT).s fok_12_50 wl_RX12_370 dX12_city_47 rfl ?_
    refine tj_putI (q := 53) (hT).s fok_12_55 tok_12 fpk_12_55 wl_RX12_99 dX12_city_50 rfl (fun σ6 => ?_)
    refine tj_aload_n (q := 54) dX12_city_53 rfl (i := 0) rfl (pl := 0) rfl ?_
    refine tj_aload_n (q := 55) dX12_city_54 rfl (i := 0) rfl (pl := 0) rfl ?_
    refine tj_getI (q := 58) (hT).s fok_12_58 wl_RX12_404 dX12_city_55 rfl ?_
    refine tj_putZx (q := 61) (hT).s fok_12_59 tok_12 fpk_12_59 wl_RX12_428 dX12_city_58 rfl (fun σ7 => ?_)
    refine tj_aload_n (q := 62) dX12_city_61 rfl (i := 0) rfl (pl := 0) rfl ?_
    refine tj_aload_n (q := 63) dX12_city_62 rfl (i := 0) rfl (pl := 0) rfl ?_
    refine tj_getI (q := 66) (hT).s fok_12_22 wl_RX12_300 dX12_city_63 rfl ?_
    refine tj_putI (q := 69) (hT).s fok_12_23 tok_12 fpk_12_23 wl_RX12_431 dX12_city_66 rfl (fun σ8 => ?_)
    refine tj_aload_n (q := 70) dX12_city_69 rfl (i := 0) rfl (pl := 0) rfl ?_
    refine tj_aload_n (q := 71) dX12_city_70 rfl (i := 0) rfl (pl := 0) rfl ?_
    refine tj_getI (q := 74) (hT).s fok_12_58 wl_RX12_404 dX12_city_71 rfl ?_
    refine tj_bnd (fun k10 => ∀ (j9 : Int32), Tj l D cA h0 ad RX12 cX12_city 2 (some .int) false 9 0 0 (fun b => (some (.int b.1), sh, P, b.2)) 0 0 sh P σ8 85 [(0, .ref (h0 + t))] [.int j9, .ref (h0 + t)] (k10 j9)) ?_ (fun k10 hk11 => ?_)
    · intro j9
      refine tj_putI (q := 88) (hT).s fok_12_20 tok_12 fpk_12_20 wl_RX12_341 dX12_city_85 rfl (fun σ12 => ?_)
      refine tj_iconst (q := 89) (v := 0) dX12_city_88 rfl (by decide) ?_
      refine tj_istore_n (q := 90) dX12_city_89 rfl (i := 1) rfl (by decide) rfl ?_
      refine tj_lv [1, 0] rfl ?_
      refine tmX12_city_L90 t hT _ ?_ FU (0 : Int32) σ12
      · intro σ17
        refine tj_iconst (q := 129) (v := 0) dX12_city_128 rfl (by decide) ?_
        refine tj_istore_n (q := 130) dX12_city_129 rfl (i := 1) rfl (by decide) rfl ?_
        refine tj_lv [1, 0] rfl ?_
        refine tmX12_city_L130 t hT _ ?_ FU (0 : Int32) σ17
        · intro σ26
          refine tj_iconst (q := 191) (v := 0) dX12_city_190 rfl (by decide) ?_
          refine tj_istore_n (q := 192) dX12_city_191 rfl (i := 1) rfl (by decide) rfl ?_
          refine tj_lv [1, 0] rfl ?_
          refine tmX12_city_L192 t hT _ ?_ FU (0 : Int32) σ26
          · intro σ31
            refine tj_iconst (q := 228) (v := 0) dX12_city_227 rfl (by decide) ?_
            refine tj_istore_n (q := 229) dX12_city_228 rfl (i := 1) rfl (by decide) rfl ?_
            refine tj_lv [1, 0] rfl ?_
            refine tmX12_city_L229 t hT _ ?_ FU (0 : Int32) σ31
            · intro σ36
              refine tj_iconst (q := 265) (v := 0) dX12_city_264 rfl (by decide) ?_
              refine tj_istore_n (q := 266) dX12_city_265 rfl (i := 1) rfl (by decide) rfl ?_
              refine tj_lv [1, 0] rfl ?_
              refine tmX12_city_L266 t hT _ ?_ FU (0 : Int32) σ36
              · intro σ39
                refine tj_iconst (q := 291) (v := 0) dX12_city_290 rfl (by decide) ?_
                refine tj_istore_n (q := 292) dX12_city_291 rfl (i := 1) rfl (by decide) rfl ?_
                refine tj_lv [1, 0] rfl ?_
                refine tmX12_city_L292 t hT _ ?_ FU (0 : Int32) σ39
                · intro σ41
                  refine tj_iconst (q := 312) (v := 0) dX12_city_311 rfl (by decide) ?_
                  refine tj_istore_n (q := 313) dX12_city_312 rfl (i := 1) rfl (by decide) rfl ?_
                  refine tj_lv [1, 0] rfl ?_
                  refine tmX12_city_L313 t hT _ ?_ FU (0 : Int32) σ41
                  · intro σ47
                    refine tj_aload_n (q := 350) dX12_city_349 rfl (i := 0) rfl (pl := 0) rfl ?_
                    refine tj_iconst (q := 351) (v := 0) dX12_city_350 rfl (by decide) ?_
                    refine tj_putI (q := 354) (hT).s fok_12_68 tok_12 fpk_12_68 wl_RX12_434 dX12_city_351 rfl (fun σ48 => ?_)
                    refine tj_aload_n (q := 355) dX12_city_354 rfl (i := 0) rfl (pl := 0) rfl ?_
                    refine tj_iconst (q := 356) (v := 0) dX12_city_355 rfl (by decide) ?_
                    refine tj_putI (q := 359) (hT).s fok_12_69 tok_12 fpk_12_69 wl_RX12_437 dX12_city_356 rfl (fun σ49 => ?_)
                    refine tj_aload_n (q := 360) dX12_city_359 rfl (i := 0) rfl (pl := 0) rfl ?_
                    refine tj_iconst (q := 361) (v := 0) dX12_city_360 rfl (by decide) ?_
                    refine tj_putI (q := 364) (hT).s fok_12_86 tok_12 fpk_12_86 wl_RX12_440 dX12_city_361 rfl (fun σ50 => ?_)
                    refine tj_aload_n (q := 365) dX12_city_364 rfl (i := 0) rfl (pl := 0) rfl ?_
                    refine tj_iconst (q := 366) (v := 0) dX12_city_365 rfl (by decide) ?_
                    refine tj_putI (q := 369) (hT).s fok_12_71 tok_12 fpk_12_71 wl_RX12_443 dX12_city_366 rfl (fun σ51 => ?_)
                    refine tj_iconst (q := 370) (v := 0) dX12_city_369 rfl (by decide) ?_
                    refine tj_istore_n (q := 371) dX12_city_370 rfl (i := 1) rfl (by decide) rfl ?_
                    refine tj_lv [1, 0] rfl ?_
                    exact tmX12_city_L371 t hT FU (0 : Int32) σ51
    · refine tj_if_eq (tgt := 84) (q := 77) dX12_city_74 (by decide) rfl ?_ ?_
      · refine tj_iconst (q := 85) (v := 0) dX12_city_84 rfl (by decide) ?_
        exact hk11 (0 : Int32)
      · refine tj_aload_n (q := 78) dX12_city_77 rfl (i := 0) rfl (pl := 0) rfl ?_
        refine tj_getI (q := 81) (hT).s fok_12_19 wl_RX12_284 dX12_city_78 rfl ?_
        refine tj_goto (q := 85) dX12_city_81 (by decide) ?_
        exact hk11 (σ8.1 t 19)
  · refine tj_iconst (q := 12) (v := (-1)) dX12_city_11 rfl (by decide) ?_
    exact tj_iret rfl rfl (Nat.le_of_ble_eq_true rfl) (Nat.le_of_ble_eq_true rfl) dX12_city_12

theorem dX12_fault_0 : decode cX12_fault 0 = .ok (.iload_n 1, 1) := by decide +kernel
theorem dX12_fault_1 : decode cX12_fault 1 = .ok (.ifCond .ne 10, 3) := by decide +kernel
theorem dX12_fault_4 : decode cX12_fault 4 = .ok (.aload_n 0, 1) := by decide +kernel
theorem dX12_fault_5 : decode cX12_fault 5 = .ok (.getfield 203, 3) := by decide +kernel
theorem dX12_fault_8 : decode cX12_fault 8 = .ok (.goto 16, 3) := by decide +kernel
theorem dX12_fault_11 : decode cX12_fault 11 = .ok (.iload_n 1, 1) := by decide +kernel
theorem dX12_fault_12 : decode cX12_fault 12 = .ok (.iconst 1, 1) := by decide +kernel
theorem dX12_fault_13 : decode cX12_fault 13 = .ok (.if_icmp .ne 10, 3) := by decide +kernel
theorem dX12_fault_16 : decode cX12_fault 16 = .ok (.aload_n 0, 1) := by decide +kernel
theorem dX12_fault_17 : decode cX12_fault 17 = .ok (.getfield 13, 3) := by decide +kernel
theorem dX12_fault_20 : decode cX12_fault 20 = .ok (.goto 4, 3) := by decide +kernel
theorem dX12_fault_23 : decode cX12_fault 23 = .ok (.iconst (-1), 1) := by decide +kernel
theorem dX12_fault_24 : decode cX12_fault 24 = .ok (.ireturn, 1) := by decide +kernel
def mX12_fault (t : Nat) (p1 : Int32) (σ : St_) : Option Int32 :=
 (if p1 = 0 then
 (some (σ.1 t 2))
 else (if p1 = (1 : Int32) then
 (some (σ.1 t 3))
 else (some (-1 : Int32))))
set_option maxHeartbeats 4000000 in
theorem rX12_fault (t : Nat) (p1 : Int32) (hT : LY12 sh P t) : Rj l D cA h0 ad yX12_fault cX12_fault 2 (some .int) false 2 0 0 (fun b => (some (.int b), sh, P, σ)) [.ref (h0 + t), .int p1] sh P σ (mX12_fault t p1 σ) := by
  rw [mX12_fault]
  refine Rj.of (by decide) (fun h => by cases h) (Nat.le_of_ble_eq_true rfl) ?_
  refine tj_lv0 (lv' := [(0, .ref (h0 + t)), (1, .int p1)]) rfl ?_
  refine tj_iload_n (q := 1) dX12_fault_0 rfl (i := 1) rfl (pl := 1) rfl ?_
  refine tj_if_ne (tgt := 11) (q := 4) dX12_fault_1 (by decide) rfl ?_ ?_
  · refine tj_aload_n (q := 5) dX12_fault_4 rfl (i := 0) rfl (pl := 0) rfl ?_
    refine tj_getI (q := 8) (hT).s fok_12_2 wl_RX12_203 dX12_fault_5 rfl ?_
    refine tj_goto (q := 24) dX12_fault_8 (by decide) ?_
    exact tj_iret rfl rfl (Nat.le_of_ble_eq_true rfl) (Nat.le_of_ble_eq_true rfl) dX12_fault_24
  · refine tj_iload_n (q := 12) dX12_fault_11 rfl (i := 1) rfl (pl := 1) rfl ?_
    refine tj_iconst (q := 13) (v := 1) dX12_fault_12 rfl (by decide) ?_
    refine tj_icmp_ne (tgt := 23) (q := 16) dX12_fault_13 (by decide) rfl ?_ ?_
    · refine tj_aload_n (q := 17) dX12_fault_16 rfl (i := 0) rfl (pl := 0) rfl ?_
      refine tj_getI (q := 20) (hT).s fok_12_3 wl_RX12_13 dX12_fault_17 rfl ?_
      refine tj_goto (q := 24) dX12_fault_20 (by decide) ?_
      exact tj_iret rfl rfl (Nat.le_of_ble_eq_true rfl) (Nat.le_of_ble_eq_true rfl) dX12_fault_24
    · refine tj_iconst (q := 24) (v := (-1)) dX12_fault_23 rfl (by decide) ?_
      exact tj_iret rfl rfl (Nat.le_of_ble_eq_true rfl) (Nat.le_of_ble_eq_true rfl) dX12_fault_24

theorem dX12_isIn_0 : decode cX12_isIn 0 = .ok (.iload_n 0, 1) := by decide +kernel
theorem dX12_isIn_1 : decode cX12_isIn 1 = .ok (.iload_n 1, 1) := by decide +kernel
theorem dX12_isIn_2 : decode cX12_isIn 2 = .ok (.if_icmp .lt 12, 3) := by decide +kernel
theorem dX12_isIn_5 : decode cX12_isIn 5 = .ok (.iload_n 0, 1) := by decide +kernel
theorem dX12_isIn_6 : decode cX12_isIn 6 = .ok (.iload_n 2, 1) := by decide +kernel
theorem dX12_isIn_7 : decode cX12_isIn 7 = .ok (.if_icmp .gt 7, 3) := by decide +kernel
theorem dX12_isIn_10 : decode cX12_isIn 10 = .ok (.iconst 1, 1) := by decide +kernel
theorem dX12_isIn_11 : decode cX12_isIn 11 = .ok (.goto 4, 3) := by decide +kernel
theorem dX12_isIn_14 : decode cX12_isIn 14 = .ok (.iconst 0, 1) := by decide +kernel
theorem dX12_isIn_15 : decode cX12_isIn 15 = .ok (.ireturn, 1) := by decide +kernel
def mX12_isIn (p1 : Int32) (p2 : Int32) (p3 : Int32) (σ : St_) : Option Bool :=
 (if p1 < p2 then
 (some false)
 else (if p3 < p1 then
 (some false)
 else (some true)))
set_option maxHeartbeats 4000000 in
theorem rX12_isIn (p1 : Int32) (p2 : Int32) (p3 : Int32)  : Rj l D cA h0 ad yX12_isIn cX12_isIn 3 (some .boolean) false 2 0 0 (fun b => (some (.int (b2i b)), sh, P, σ)) [.int p1, .int p2, .int p3] sh P σ (mX12_isIn p1 p2 p3 σ) := by
  rw [mX12_isIn]
  refine Rj.of (by decide) (fun h => by cases h) (Nat.le_of_ble_eq_true rfl) ?_
  refine tj_lv0 (lv' := [(0, .int p1), (1, .int p2), (2, .int p3)]) rfl ?_
  refine tj_iload_n (q := 1) dX12_isIn_0 rfl (i := 0) rfl (pl := 0) rfl ?_
  refine tj_iload_n (q := 2) dX12_isIn_1 rfl (i := 1) rfl (pl := 1) rfl ?_
  refine tj_icmp_lt (tgt := 14) (q := 5) dX12_isIn_2 (by decide) rfl ?_ ?_
  · refine tj_iconst (q := 15) (v := 0) dX12_isIn_14 rfl (by decide) ?_
    exact tj_zret rfl (by decide) rfl (Nat.le_of_ble_eq_true rfl) (Nat.le_of_ble_eq_true rfl) dX12_isIn_15
  · refine tj_iload_n (q := 6) dX12_isIn_5 rfl (i := 0) rfl (pl := 0) rfl ?_
    refine tj_iload_n (q := 7) dX12_isIn_6 rfl (i := 2) rfl (pl := 2) rfl ?_
    refine tj_icmp_gt (tgt := 14) (q := 10) dX12_isIn_7 (by decide) rfl ?_ ?_
    · refine tj_iconst (q := 15) (v := 0) dX12_isIn_14 rfl (by decide) ?_
      exact tj_zret rfl (by decide) rfl (Nat.le_of_ble_eq_true rfl) (Nat.le_of_ble_eq_true rfl) dX12_isIn_15
    · refine tj_iconst (q := 11) (v := 1) dX12_isIn_10 rfl (by decide) ?_
      refine tj_goto (q := 15) dX12_isIn_11 (by decide) ?_
      exact tj_zret rfl (by decide) rfl (Nat.le_of_ble_eq_true rfl) (Nat.le_of_ble_eq_true rfl) dX12_isIn_15

theorem dX12_isThing_0 : decode cX12_isThing 0 = .ok (.iload_n 1, 1) := by decide +kernel
theorem dX12_isThing_1 : decode cX12_isThing 1 = .ok (.iconst 0, 1) := by decide +kernel
theorem dX12_isThing_2 : decode cX12_isThing 2 = .ok (.aload_n 0, 1) := by decide +kernel
theorem dX12_isThing_3 : decode cX12_isThing 3 = .ok (.getfield 419, 3) := by decide +kernel
theorem dX12_isThing_6 : decode cX12_isThing 6 = .ok (.iconst 1, 1) := by decide +kernel
theorem dX12_isThing_7 : decode cX12_isThing 7 = .ok (.isub, 1) := by decide +kernel
theorem dX12_isThing_8 : decode cX12_isThing 8 = .ok (.invokestatic 446, 3) := by decide +kernel
theorem dX12_isThing_11 : decode cX12_isThing 11 = .ok (.ireturn, 1) := by decide +kernel
theorem wm_X12_isIn : Cond.static yX12_isIn ∈ TB ∧ Cond.initialized yX12_isIn.cls ∈ TB ∧ Cond.code yX12_isIn cX12_isIn 3 (some .boolean) ∈ TB ∧ (yX12_isIn.cls ≠ "java/lang/invoke/MethodHandle" ∧ yX12_isIn.cls ≠ "java/lang/invoke/VarHandle" ∧ (parseMethodDescriptor yX12_isIn.desc).map (fun d => d.parameters.length) = some 3) ∧ 3 ≤ 21 := ⟨tbm 1883 (by decide +kernel) (by decide +kernel), tbm 146 (by decide +kernel) (by decide +kernel), tbm 1884 (by decide +kernel) (by decide +kernel), by decide +kernel, by decide⟩
theorem wi_RX12_446 : Is RX12 446 yX12_isIn cX12_isIn 3 (some .boolean) 3 := ⟨tbm 1882 (by decide +kernel) (by decide +kernel), wm_X12_isIn⟩
def mX12_isThing (t : Nat) (p1 : Int32) (σ : St_) : Option Bool :=
 ((mX12_isIn p1 (0 : Int32) ((σ.1 t 52) - (1 : Int32)) σ).bind fun r1 =>
 (some r1))
set_option maxHeartbeats 4000000 in
theorem rX12_isThing (t : Nat) (p1 : Int32) (hT : LY12 sh P t) : Rj l D cA h0 ad yX12_isThing cX12_isThing 2 (some .boolean) false 3 0 0 (fun b => (some (.int (b2i b)), sh, P, σ)) [.ref (h0 + t), .int p1] sh P σ (mX12_isThing t p1 σ) := by
  rw [mX12_isThing]
  refine Rj.of (by decide) (fun h => by cases h) (Nat.le_of_ble_eq_true rfl) ?_
  refine tj_lv0 (lv' := [(0, .ref (h0 + t)), (1, .int p1)]) rfl ?_
  refine tj_iload_n (q := 1) dX12_isThing_0 rfl (i := 1) rfl (pl := 1) rfl ?_
  refine tj_iconst (q := 2) (v := 0) dX12_isThing_1 rfl (by decide) ?_
  refine tj_aload_n (q := 3) dX12_isThing_2 rfl (i := 0) rfl (pl := 0) rfl ?_
  refine tj_getI (q := 6) (hT).s fok_12_52 wl_RX12_419 dX12_isThing_3 rfl ?_
  refine tj_iconst (q := 7) (v := 1) dX12_isThing_6 rfl (by decide) ?_
  refine tj_isub (q := 8) dX12_isThing_7 rfl ?_
  refine tj_callZp (q := 11) (kj_S (As := [.int p1, .int (0 : Int32), .int ((σ.1 t 52) - (1 : Int32))]) (rest := []) wi_RX12_446 (rX12_isIn p1 (0 : Int32) ((σ.1 t 52) - (1 : Int32))) rfl (Nat.le_of_ble_eq_true rfl) ⟨Nat.le_of_ble_eq_true rfl, Nat.le_of_ble_eq_true rfl⟩ (Nat.le_of_ble_eq_true rfl) dX12_isThing_8) rfl (fun r1 => ?_)
  exact tj_zret rfl (nar_b2i _) rfl (Nat.le_of_ble_eq_true rfl) (Nat.le_of_ble_eq_true rfl) dX12_isThing_11

theorem dX12_isHouse_0 : decode cX12_isHouse 0 = .ok (.iload_n 1, 1) := by decide +kernel
theorem dX12_isHouse_1 : decode cX12_isHouse 1 = .ok (.iconst 0, 1) := by decide +kernel
theorem dX12_isHouse_2 : decode cX12_isHouse 2 = .ok (.aload_n 0, 1) := by decide +kernel
theorem dX12_isHouse_3 : decode cX12_isHouse 3 = .ok (.getfield 422, 3) := by decide +kernel
theorem dX12_isHouse_6 : decode cX12_isHouse 6 = .ok (.iconst 1, 1) := by decide +kernel
theorem dX12_isHouse_7 : decode cX12_isHouse 7 = .ok (.isub, 1) := by decide +kernel
theorem dX12_isHouse_8 : decode cX12_isHouse 8 = .ok (.invokestatic 446, 3) := by decide +kernel
theorem dX12_isHouse_11 : decode cX12_isHouse 11 = .ok (.ireturn, 1) := by decide +kernel
def mX12_isHouse (t : Nat) (p1 : Int32) (σ : St_) : Option Bool :=
 ((mX12_isIn p1 (0 : Int32) ((σ.1 t 53) - (1 : Int32)) σ).bind fun r1 =>
 (some r1))
set_option maxHeartbeats 4000000 in
theorem rX12_isHouse (t : Nat) (p1 : Int32) (hT : LY12 sh P t) : Rj l D cA h0 ad yX12_isHouse cX12_isHouse 2 (some .boolean) false 3 0 0 (fun b => (some (.int (b2i b)), sh, P, σ)) [.ref (h0 + t), .int p1] sh P σ (mX12_isHouse t p1 σ) := by
  rw [mX12_isHouse]
  refine Rj.of (by decide) (fun h => by cases h) (Nat.le_of_ble_eq_true rfl) ?_
  refine tj_lv0 (lv' := [(0, .ref (h0 + t)), (1, .int p1)]) rfl ?_
  refine tj_iload_n (q := 1) dX12_isHouse_0 rfl (i := 1) rfl (pl := 1) rfl ?_
  refine tj_iconst (q := 2) (v := 0) dX12_isHouse_1 rfl (by decide) ?_
  refine tj_aload_n (q := 3) dX12_isHouse_2 rfl (i := 0) rfl (pl := 0) rfl ?_
  refine tj_getI (q := 6) (hT).s fok_12_53 wl_RX12_422 dX12_isHouse_3 rfl ?_
  refine tj_iconst (q := 7) (v := 1) dX12_isHouse_6 rfl (by decide) ?_
  refine tj_isub (q := 8) dX12_isHouse_7 rfl ?_
  refine tj_callZp (q := 11) (kj_S (As := [.int p1, .int (0 : Int32), .int ((σ.1 t 53) - (1 : Int32))]) (rest := []) wi_RX12_446 (rX12_isIn p1 (0 : Int32) ((σ.1 t 53) - (1 : Int32))) rfl (Nat.le_of_ble_eq_true rfl) ⟨Nat.le_of_ble_eq_true rfl, Nat.le_of_ble_eq_true rfl⟩ (Nat.le_of_ble_eq_true rfl) dX12_isHouse_8) rfl (fun r1 => ?_)
  exact tj_zret rfl (nar_b2i _) rfl (Nat.le_of_ble_eq_true rfl) (Nat.le_of_ble_eq_true rfl) dX12_isHouse_11

theorem dX12_isThief_0 : decode cX12_isThief 0 = .ok (.iload_n 1, 1) := by decide +kernel
theorem dX12_isThief_1 : decode cX12_isThief 1 = .ok (.iconst 0, 1) := by decide +kernel
theorem dX12_isThief_2 : decode cX12_isThief 2 = .ok (.aload_n 0, 1) := by decide +kernel
theorem dX12_isThief_3 : decode cX12_isThief 3 = .ok (.getfield 425, 3) := by decide +kernel
theorem dX12_isThief_6 : decode cX12_isThief 6 = .ok (.iconst 1, 1) := by decide +kernel
theorem dX12_isThief_7 : decode cX12_isThief 7 = .ok (.isub, 1) := by decide +kernel
theorem dX12_isThief_8 : decode cX12_isThief 8 = .ok (.invokestatic 446, 3) := by decide +kernel
theorem dX12_isThief_11 : decode cX12_isThief 11 = .ok (.ireturn, 1) := by decide +kernel
def mX12_isThief (t : Nat) (p1 : Int32) (σ : St_) : Option Bool :=
 ((mX12_isIn p1 (0 : Int32) ((σ.1 t 54) - (1 : Int32)) σ).bind fun r1 =>
 (some r1))
set_option maxHeartbeats 4000000 in
theorem rX12_isThief (t : Nat) (p1 : Int32) (hT : LY12 sh P t) : Rj l D cA h0 ad yX12_isThief cX12_isThief 2 (some .boolean) false 3 0 0 (fun b => (some (.int (b2i b)), sh, P, σ)) [.ref (h0 + t), .int p1] sh P σ (mX12_isThief t p1 σ) := by
  rw [mX12_isThief]
  refine Rj.of (by decide) (fun h => by cases h) (Nat.le_of_ble_eq_true rfl) ?_
  refine tj_lv0 (lv' := [(0, .ref (h0 + t)), (1, .int p1)]) rfl ?_
  refine tj_iload_n (q := 1) dX12_isThief_0 rfl (i := 1) rfl (pl := 1) rfl ?_
  refine tj_iconst (q := 2) (v := 0) dX12_isThief_1 rfl (by decide) ?_
  refine tj_aload_n (q := 3) dX12_isThief_2 rfl (i := 0) rfl (pl := 0) rfl ?_
  refine tj_getI (q := 6) (hT).s fok_12_54 wl_RX12_425 dX12_isThief_3 rfl ?_
  refine tj_iconst (q := 7) (v := 1) dX12_isThief_6 rfl (by decide) ?_
  refine tj_isub (q := 8) dX12_isThief_7 rfl ?_
  refine tj_callZp (q := 11) (kj_S (As := [.int p1, .int (0 : Int32), .int ((σ.1 t 54) - (1 : Int32))]) (rest := []) wi_RX12_446 (rX12_isIn p1 (0 : Int32) ((σ.1 t 54) - (1 : Int32))) rfl (Nat.le_of_ble_eq_true rfl) ⟨Nat.le_of_ble_eq_true rfl, Nat.le_of_ble_eq_true rfl⟩ (Nat.le_of_ble_eq_true rfl) dX12_isThief_8) rfl (fun r1 => ?_)
  exact tj_zret rfl (nar_b2i _) rfl (Nat.le_of_ble_eq_true rfl) (Nat.le_of_ble_eq_true rfl) dX12_isThief_11

theorem dX12_isHolder_0 : decode cX12_isHolder 0 = .ok (.iload_n 2, 1) := by decide +kernel
theorem dX12_isHolder_1 : decode cX12_isHolder 1 = .ok (.ifCond .eq 11, 3) := by decide +kernel
theorem dX12_isHolder_4 : decode cX12_isHolder 4 = .ok (.aload_n 0, 1) := by decide +kernel
theorem dX12_isHolder_5 : decode cX12_isHolder 5 = .ok (.iload_n 1, 1) := by decide +kernel
theorem dX12_isHolder_6 : decode cX12_isHolder 6 = .ok (.invokevirtual 450, 3) := by decide +kernel
theorem dX12_isHolder_9 : decode cX12_isHolder 9 = .ok (.goto 8, 3) := by decide +kernel
theorem dX12_isHolder_12 : decode cX12_isHolder 12 = .ok (.aload_n 0, 1) := by decide +kernel
theorem dX12_isHolder_13 : decode cX12_isHolder 13 = .ok (.iload_n 1, 1) := by decide +kernel
theorem dX12_isHolder_14 : decode cX12_isHolder 14 = .ok (.invokevirtual 453, 3) := by decide +kernel
theorem dX12_isHolder_17 : decode cX12_isHolder 17 = .ok (.ireturn, 1) := by decide +kernel
theorem wm_X12_isThief : Cond.instanceMethod yX12_isThief ∈ TB ∧ Cond.selects yX12_isThief.cls yX12_isThief yX12_isThief ∈ TB ∧ Cond.initialized yX12_isThief.cls ∈ TB ∧ Cond.code yX12_isThief cX12_isThief 2 (some .boolean) ∈ TB ∧ (yX12_isThief.cls ≠ "java/lang/invoke/MethodHandle" ∧ yX12_isThief.cls ≠ "java/lang/invoke/VarHandle" ∧ (parseMethodDescriptor yX12_isThief.desc).map (fun d => d.parameters.length) = some 1) ∧ 2 ≤ 21 := ⟨tbm 1895 (by decide +kernel) (by decide +kernel), tbm 90 (by decide +kernel) (by decide +kernel), tbm 146 (by decide +kernel) (by decide +kernel), tbm 1896 (by decide +kernel) (by decide +kernel), by decide +kernel, by decide⟩
theorem wi_RX12_450 : Iv RX12 450 yX12_isThief cX12_isThief 2 (some .boolean) 1 := ⟨tbm 1893 (by decide +kernel) (by decide +kernel), wm_X12_isThief⟩
theorem wm_X12_isHouse : Cond.instanceMethod yX12_isHouse ∈ TB ∧ Cond.selects yX12_isHouse.cls yX12_isHouse yX12_isHouse ∈ TB ∧ Cond.initialized yX12_isHouse.cls ∈ TB ∧ Cond.code yX12_isHouse cX12_isHouse 2 (some .boolean) ∈ TB ∧ (yX12_isHouse.cls ≠ "java/lang/invoke/MethodHandle" ∧ yX12_isHouse.cls ≠ "java/lang/invoke/VarHandle" ∧ (parseMethodDescriptor yX12_isHouse.desc).map (fun d => d.parameters.length) = some 1) ∧ 2 ≤ 21 := ⟨tbm 1899 (by decide +kernel) (by decide +kernel), tbm 91 (by decide +kernel) (by decide +kernel), tbm 146 (by decide +kernel) (by decide +kernel), tbm 1900 (by decide +kernel) (by decide +kernel), by decide +kernel, by decide⟩
theorem wi_RX12_453 : Iv RX12 453 yX12_isHouse cX12_isHouse 2 (some .boolean) 1 := ⟨tbm 1897 (by decide +kernel) (by decide +kernel), wm_X12_isHouse⟩
def mX12_isHolder (t : Nat) (p1 : Int32) (p2 : Bool) (σ : St_) : Option Bool :=
 (if p2 = true then
 ((mX12_isThief t p1 σ).bind fun r1 =>
 (some r1))
 else ((mX12_isHouse t p1 σ).bind fun r2 =>
 (some r2)))
set_option maxHeartbeats 4000000 in
theorem rX12_isHolder (t : Nat) (p1 : Int32) (p2 : Bool) (hT : LY12 sh P t) : Rj l D cA h0 ad yX12_isHolder cX12_isHolder 3 (some .boolean) false 4 0 0 (fun b => (some (.int (b2i b)), sh, P, σ)) [.ref (h0 + t), .int p1, .int (b2i p2)] sh P σ (mX12_isHolder t p1 p2 σ) := by
  rw [mX12_isHolder]
  refine Rj.of (by decide) (fun h => by cases h) (Nat.le_of_ble_eq_true rfl) ?_
  refine tj_lv0 (lv' := [(0, .ref (h0 + t)), (1, .int p1), (2, .int (b2i p2))]) rfl ?_
  refine tj_iload_n (q := 1) dX12_isHolder_0 rfl (i := 2) rfl (pl := 2) rfl ?_
  refine tj_bz (tgt := 12) (q := 4) dX12_isHolder_1 (by decide) rfl ?_ ?_
  · refine tj_aload_n (q := 5) dX12_isHolder_4 rfl (i := 0) rfl (pl := 0) rfl ?_
    refine tj_iload_n (q := 6) dX12_isHolder_5 rfl (i := 1) rfl (pl := 1) rfl ?_
    refine tj_callZp (q := 9) (kj_V (As := [.int p1]) (rest := []) (t := t) wi_RX12_450 (hT).s rfl (rX12_isThief t p1 (hT)) rfl (Nat.le_of_ble_eq_true rfl) ⟨Nat.le_of_ble_eq_true rfl, Nat.le_of_ble_eq_true rfl⟩ (Nat.le_of_ble_eq_true rfl) dX12_isHolder_6) rfl (fun r1 => ?_)
    refine tj_goto (q := 17) dX12_isHolder_9 (by decide) ?_
    exact tj_zret rfl (nar_b2i _) rfl (Nat.le_of_ble_eq_true rfl) (Nat.le_of_ble_eq_true rfl) dX12_isHolder_17
  · refine tj_aload_n (q := 13) dX12_isHolder_12 rfl (i := 0) rfl (pl := 0) rfl ?_
    refine tj_iload_n (q := 14) dX12_isHolder_13 rfl (i := 1) rfl (pl := 1) rfl ?_
    refine tj_callZp (q := 17) (kj_V (As := [.int p1]) (rest := []) (t := t) wi_RX12_453 (hT).s rfl (rX12_isHouse t p1 (hT)) rfl (Nat.le_of_ble_eq_true rfl) ⟨Nat.le_of_ble_eq_true rfl, Nat.le_of_ble_eq_true rfl⟩ (Nat.le_of_ble_eq_true rfl) dX12_isHolder_14) rfl (fun r2 => ?_)
    exact tj_zret rfl (nar_b2i _) rfl (Nat.le_of_ble_eq_true rfl) (Nat.le_of_ble_eq_true rfl) dX12_isHolder_17

theorem dX12_load_0 : decode cX12_load 0 = .ok (.iconst 0, 1) := by decide +kernel
theorem dX12_load_1 : decode cX12_load 1 = .ok (.istore_n 1, 1) := by decide +kernel
theorem dX12_load_2 : decode cX12_load 2 = .ok (.iload_n 1, 1) := by decide +kernel
theorem dX12_load_3 : decode cX12_load 3 = .ok (.bipush 10, 2) := by decide +kernel
theorem dX12_load_5 : decode cX12_load 5 = .ok (.if_icmp .ge 21, 3) := by decide +kernel
theorem dX12_load_8 : decode cX12_load 8 = .ok (.aload_n 0, 1) := by decide +kernel
theorem dX12_load_9 : decode cX12_load 9 = .ok (.getfield 105, 3) := by decide +kernel
theorem dX12_load_12 : decode cX12_load 12 = .ok (.iload_n 1, 1) := by decide +kernel
theorem dX12_load_13 : decode cX12_load 13 = .ok (.aload_n 0, 1) := by decide +kernel
theorem dX12_load_14 : decode cX12_load 14 = .ok (.getfield 102, 3) := by decide +kernel
theorem dX12_load_17 : decode cX12_load 17 = .ok (.iload_n 1, 1) := by decide +kernel
theorem dX12_load_18 : decode cX12_load 18 = .ok (.iaload, 1) := by decide +kernel
theorem dX12_load_19 : decode cX12_load 19 = .ok (.iastore, 1) := by decide +kernel
theorem dX12_load_20 : decode cX12_load 20 = .ok (.iinc 1 1, 3) := by decide +kernel
theorem dX12_load_23 : decode cX12_load 23 = .ok (.goto (-21), 3) := by decide +kernel
theorem dX12_load_26 : decode cX12_load 26 = .ok (.aload_n 0, 1) := by decide +kernel
theorem dX12_load_27 : decode cX12_load 27 = .ok (.aload_n 0, 1) := by decide +kernel
theorem dX12_load_28 : decode cX12_load 28 = .ok (.getfield 102, 3) := by decide +kernel
theorem dX12_load_31 : decode cX12_load 31 = .ok (.bipush 11, 2) := by decide +kernel
theorem dX12_load_33 : decode cX12_load 33 = .ok (.iaload, 1) := by decide +kernel
theorem dX12_load_34 : decode cX12_load 34 = .ok (.putfield 456, 3) := by decide +kernel
theorem dX12_load_37 : decode cX12_load 37 = .ok (.aload_n 0, 1) := by decide +kernel
theorem dX12_load_38 : decode cX12_load 38 = .ok (.aload_n 0, 1) := by decide +kernel
theorem dX12_load_39 : decode cX12_load 39 = .ok (.getfield 102, 3) := by decide +kernel
theorem dX12_load_42 : decode cX12_load 42 = .ok (.bipush 12, 2) := by decide +kernel
theorem dX12_load_44 : decode cX12_load 44 = .ok (.iaload, 1) := by decide +kernel
theorem dX12_load_45 : decode cX12_load 45 = .ok (.putfield 459, 3) := by decide +kernel
theorem dX12_load_48 : decode cX12_load 48 = .ok (.return_, 1) := by decide +kernel
theorem wl_RX12_105 : Cond.fieldLink RX12 105 (TX12 61).1 (TX12 61).2.1 (TX12 61).2.2.1 ∈ TB := tbm 1476 (by decide +kernel) (by decide +kernel)
theorem wl_RX12_456 : Cond.fieldLink RX12 456 (TX12 62).1 (TX12 62).2.1 (TX12 62).2.2.1 ∈ TB := tbm 1477 (by decide +kernel) (by decide +kernel)
theorem wl_RX12_459 : Cond.fieldLink RX12 459 (TX12 63).1 (TX12 63).2.1 (TX12 63).2.2.1 ∈ TB := tbm 1478 (by decide +kernel) (by decide +kernel)
def mX12_load_L2 (t : Nat) (k26 : St_ → Option St_) : Nat → Int32 → St_ → Option St_
  | 0, _, _ => none
  | n + 1, x1, σ => (if (10 : Int32) ≤ x1 then
 (k26 σ)
 else (if bin x1 20 = true then bnd (σ.1 (t + 29) x1.toNatClampNeg) fun v1 =>
 (if bin x1 10 = true then bnd (sI σ (t + 30) x1.toNatClampNeg v1) fun σ2 =>
 (mX12_load_L2 t k26 n (x1 + 1) σ2)
 else none)
 else none))
def mX12_load (t : Nat) (σ : St_) : Option St_ :=
 (mX12_load_L2 t
 (fun (σ3 : St_) => (if bin (11 : Int32) 20 = true then bnd (σ3.1 (t + 29) (11 : Int32).toNatClampNeg) fun v4 =>
 (bnd (sI σ3 t 62 v4) fun σ5 =>
 (if bin (12 : Int32) 20 = true then bnd (σ5.1 (t + 29) (12 : Int32).toNatClampNeg) fun v6 =>
 (bnd (sI σ5 t 63 v6) fun σ7 =>
 (some σ7))
 else none))
 else none)) FU (0 : Int32) σ)
set_option maxHeartbeats 4000000 in
theorem tmX12_load_L2 (t : Nat) (hT : LY12 sh P t) (k26 : St_ → Option St_) (hk26 : ∀ (σ1 : St_), Tj l D cA h0 ad RX12 cX12_load 2 none false 2 0 0 (fun b => (none, sh, P, b)) 0 0 sh P σ1 26 [(0, .ref (h0 + t))] [] (k26 σ1)) : ∀ (n : Nat) (x1 : Int32) (σ : St_), Tj l D cA h0 ad RX12 cX12_load 2 none false 2 0 0 (fun b => (none, sh, P, b)) 0 0 sh P σ 2 [(0, .ref (h0 + t)), (1, .int x1)] [] (mX12_load_L2 t k26 n x1 σ) := by
  intro n
  induction n with
  | zero => intros; exact tj_none
  | succ n ih =>
    intro x1 σ
    rw [mX12_load_L2]
    refine tj_iload_n (q := 3) dX12_load_2 rfl (i := 1) rfl (pl := 1) rfl ?_
    refine tj_bipush (q := 5) (v := 10) dX12_load_3 rfl (by decide) ?_
    refine tj_icmp_ge (tgt := 26) (q := 8) dX12_load_5 (by decide) rfl ?_ ?_
    · refine tj_lv [0] rfl ?_
      exact hk26 σ
    · refine tj_aload_n (q := 9) dX12_load_8 rfl (i := 0) rfl (pl := 0) rfl ?_
      refine tj_getR (q := 12) (hT).s (hT).p_w fok_12_61 wl_RX12_105 dX12_load_9 rfl ?_
      refine tj_iload_n (q := 13) dX12_load_12 rfl (i := 1) rfl (pl := 1) rfl ?_
      refine tj_aload_n (q := 14) dX12_load_13 rfl (i := 0) rfl (pl := 0) rfl ?_
      refine tj_getR (q := 17) (hT).s (hT).p_now fok_12_60 wl_RX12_102 dX12_load_14 rfl ?_
      refine tj_iload_n (q := 18) dX12_load_17 rfl (i := 1) rfl (pl := 1) rfl ?_
      refine tj_iaload (q := 19) (hT).s_now dX12_load_18 rfl ?_
      refine tj_topI (fun v1 => ?_)
      refine tj_iastore (q := 20) (hT).s_w dX12_load_19 rfl (fun σ2 => ?_)
      refine tj_iinc (q := 23) (v := x1 + 1) dX12_load_20 rfl (pl := 1) rfl rfl (by decide) rfl ?_
      refine tj_goto (q := 2) dX12_load_23 (by decide) ?_
      refine tj_lv [1, 0] rfl ?_
      exact ih (x1 + 1) σ2

set_option maxHeartbeats 4000000 in
theorem rX12_load (t : Nat) (hT : LY12 sh P t) : Rj l D cA h0 ad yX12_load cX12_load 2 none false 2 0 0 (fun b => (none, sh, P, b)) [.ref (h0 + t)] sh P σ (mX12_load t σ) := by
  rw [mX12_load]
  refine Rj.of (by decide) (fun h => by cases h) (Nat.le_of_ble_eq_true rfl) ?_
  refine tj_lv0 (lv' := [(0, .ref (h0 + t))]) rfl ?_
  refine tj_iconst (q := 1) (v := 0) dX12_load_0 rfl (by decide) ?_
  refine tj_istore_n (q := 2) dX12_load_1 rfl (i := 1) rfl (by decide) rfl ?_
  refine tj_lv [1, 0] rfl ?_
  refine tmX12_load_L2 t hT _ ?_ FU (0 : Int32) σ
  · intro σ3
    refine tj_aload_n (q := 27) dX12_load_26 rfl (i := 0) rfl (pl := 0) rfl ?_
    refine tj_aload_n (q := 28) dX12_load_27 rfl (i := 0) rfl (pl := 0) rfl ?_
    refine tj_getR (q := 31) (hT).s (hT).p_now fok_12_60 wl_RX12_102 dX12_load_28 rfl ?_
    refine tj_bipush (q := 33) (v := 11) dX12_load_31 rfl (by decide) ?_
    refine tj_iaload (q := 34) (hT).s_now dX12_load_33 rfl ?_
    refine tj_topI (fun v4 => ?_)
    refine tj_putI (q := 37) (hT).s fok_12_62 tok_12 fpk_12_62 wl_RX12_456 dX12_load_34 rfl (fun σ5 => ?_)
    refine tj_aload_n (q := 38) dX12_load_37 rfl (i := 0) rfl (pl := 0) rfl ?_
    refine tj_aload_n (q := 39) dX12_load_38 rfl (i := 0) rfl (pl := 0) rfl ?_
    refine tj_getR (q := 42) (hT).s (hT).p_now fok_12_60 wl_RX12_102 dX12_load_39 rfl ?_
    refine tj_bipush (q := 44) (v := 12) dX12_load_42 rfl (by decide) ?_
    refine tj_iaload (q := 45) (hT).s_now dX12_load_44 rfl ?_
    refine tj_topI (fun v6 => ?_)
    refine tj_putI (q := 48) (hT).s fok_12_63 tok_12 fpk_12_63 wl_RX12_459 dX12_load_45 rfl (fun σ7 => ?_)
    exact tj_vret rfl rfl (Nat.le_of_ble_eq_true rfl) (Nat.le_of_ble_eq_true rfl) dX12_load_48

theorem dX12_tick_0 : decode cX12_tick 0 = .ok (.aload_n 0, 1) := by decide +kernel
theorem dX12_tick_1 : decode cX12_tick 1 = .ok (.dup, 1) := by decide +kernel
theorem dX12_tick_2 : decode cX12_tick 2 = .ok (.getfield 456, 3) := by decide +kernel
theorem dX12_tick_5 : decode cX12_tick 5 = .ok (.iconst 1, 1) := by decide +kernel
theorem dX12_tick_6 : decode cX12_tick 6 = .ok (.iadd, 1) := by decide +kernel
theorem dX12_tick_7 : decode cX12_tick 7 = .ok (.putfield 456, 3) := by decide +kernel
theorem dX12_tick_10 : decode cX12_tick 10 = .ok (.aload_n 0, 1) := by decide +kernel
theorem dX12_tick_11 : decode cX12_tick 11 = .ok (.getfield 456, 3) := by decide +kernel
theorem dX12_tick_14 : decode cX12_tick 14 = .ok (.aload_n 0, 1) := by decide +kernel
theorem dX12_tick_15 : decode cX12_tick 15 = .ok (.getfield 99, 3) := by decide +kernel
theorem dX12_tick_18 : decode cX12_tick 18 = .ok (.if_icmp .ge 4, 3) := by decide +kernel
theorem dX12_tick_21 : decode cX12_tick 21 = .ok (.return_, 1) := by decide +kernel
theorem dX12_tick_22 : decode cX12_tick 22 = .ok (.aload_n 0, 1) := by decide +kernel
theorem dX12_tick_23 : decode cX12_tick 23 = .ok (.iconst 0, 1) := by decide +kernel
theorem dX12_tick_24 : decode cX12_tick 24 = .ok (.putfield 456, 3) := by decide +kernel
theorem dX12_tick_27 : decode cX12_tick 27 = .ok (.aload_n 0, 1) := by decide +kernel
theorem dX12_tick_28 : decode cX12_tick 28 = .ok (.iconst 0, 1) := by decide +kernel
theorem dX12_tick_29 : decode cX12_tick 29 = .ok (.putfield 459, 3) := by decide +kernel
theorem dX12_tick_32 : decode cX12_tick 32 = .ok (.return_, 1) := by decide +kernel
def mX12_tick (t : Nat) (σ : St_) : Option St_ :=
 (bnd (sI σ t 62 ((σ.1 t 62) + (1 : Int32))) fun σ1 =>
 (if (σ1.1 t 55) ≤ (σ1.1 t 62) then
 (bnd (sI σ1 t 62 (0 : Int32)) fun σ2 =>
 (bnd (sI σ2 t 63 (0 : Int32)) fun σ3 =>
 (some σ3)))
 else (some σ1)))
set_option maxHeartbeats 4000000 in
theorem rX12_tick (t : Nat) (hT : LY12 sh P t) : Rj l D cA h0 ad yX12_tick cX12_tick 1 none false 2 0 0 (fun b => (none, sh, P, b)) [.ref (h0 + t)] sh P σ (mX12_tick t σ) := by
  rw [mX12_tick]
  refine Rj.of (by decide) (fun h => by cases h) (Nat.le_of_ble_eq_true rfl) ?_
  refine tj_lv0 (lv' := [(0, .ref (h0 + t))]) rfl ?_
  refine tj_aload_n (q := 1) dX12_tick_0 rfl (i := 0) rfl (pl := 0) rfl ?_
  refine tj_dup (q := 2) dX12_tick_1 rfl rfl ?_
  refine tj_getI (q := 5) (hT).s fok_12_62 wl_RX12_456 dX12_tick_2 rfl ?_
  refine tj_iconst (q := 6) (v := 1) dX12_tick_5 rfl (by decide) ?_
  refine tj_iadd (q := 7) dX12_tick_6 rfl ?_
  refine tj_putI (q := 10) (hT).s fok_12_62 tok_12 fpk_12_62 wl_RX12_456 dX12_tick_7 rfl (fun σ1 => ?_)
  refine tj_aload_n (q := 11) dX12_tick_10 rfl (i := 0) rfl (pl := 0) rfl ?_
  refine tj_getI (q := 14) (hT).s fok_12_62 wl_RX12_456 dX12_tick_11 rfl ?_
  refine tj_aload_n (q := 15) dX12_tick_14 rfl (i := 0) rfl (pl := 0) rfl ?_
  refine tj_getI (q := 18) (hT).s fok_12_55 wl_RX12_99 dX12_tick_15 rfl ?_
  refine tj_icmp_ge (tgt := 22) (q := 21) dX12_tick_18 (by decide) rfl ?_ ?_
  · refine tj_aload_n (q := 23) dX12_tick_22 rfl (i := 0) rfl (pl := 0) rfl ?_
    refine tj_iconst (q := 24) (v := 0) dX12_tick_23 rfl (by decide) ?_
    refine tj_putI (q := 27) (hT).s fok_12_62 tok_12 fpk_12_62 wl_RX12_456 dX12_tick_24 rfl (fun σ2 => ?_)
    refine tj_aload_n (q := 28) dX12_tick_27 rfl (i := 0) rfl (pl := 0) rfl ?_
    refine tj_iconst (q := 29) (v := 0) dX12_tick_28 rfl (by decide) ?_
    refine tj_putI (q := 32) (hT).s fok_12_63 tok_12 fpk_12_63 wl_RX12_459 dX12_tick_29 rfl (fun σ3 => ?_)
    exact tj_vret rfl rfl (Nat.le_of_ble_eq_true rfl) (Nat.le_of_ble_eq_true rfl) dX12_tick_32
  · exact tj_vret rfl rfl (Nat.le_of_ble_eq_true rfl) (Nat.le_of_ble_eq_true rfl) dX12_tick_21

theorem dX12_trueWorth_0 : decode cX12_trueWorth 0 = .ok (.aload_n 0, 1) := by decide +kernel
theorem dX12_trueWorth_1 : decode cX12_trueWorth 1 = .ok (.getfield 96, 3) := by decide +kernel
theorem dX12_trueWorth_4 : decode cX12_trueWorth 4 = .ok (.bipush 9, 2) := by decide +kernel
theorem dX12_trueWorth_6 : decode cX12_trueWorth 6 = .ok (.iload_n 1, 1) := by decide +kernel
theorem dX12_trueWorth_7 : decode cX12_trueWorth 7 = .ok (.imul, 1) := by decide +kernel
theorem dX12_trueWorth_8 : decode cX12_trueWorth 8 = .ok (.iload_n 3, 1) := by decide +kernel
theorem dX12_trueWorth_9 : decode cX12_trueWorth 9 = .ok (.ifCond .eq 9, 3) := by decide +kernel
theorem dX12_trueWorth_12 : decode cX12_trueWorth 12 = .ok (.iconst 5, 1) := by decide +kernel
theorem dX12_trueWorth_13 : decode cX12_trueWorth 13 = .ok (.iload_n 2, 1) := by decide +kernel
theorem dX12_trueWorth_14 : decode cX12_trueWorth 14 = .ok (.iadd, 1) := by decide +kernel
theorem dX12_trueWorth_15 : decode cX12_trueWorth 15 = .ok (.goto 4, 3) := by decide +kernel
theorem dX12_trueWorth_18 : decode cX12_trueWorth 18 = .ok (.iload_n 2, 1) := by decide +kernel
theorem dX12_trueWorth_19 : decode cX12_trueWorth 19 = .ok (.iadd, 1) := by decide +kernel
theorem dX12_trueWorth_20 : decode cX12_trueWorth 20 = .ok (.iaload, 1) := by decide +kernel
theorem dX12_trueWorth_21 : decode cX12_trueWorth 21 = .ok (.istore 4, 2) := by decide +kernel
theorem dX12_trueWorth_23 : decode cX12_trueWorth 23 = .ok (.iload 4, 2) := by decide +kernel
theorem dX12_trueWorth_25 : decode cX12_trueWorth 25 = .ok (.iconst (-1), 1) := by decide +kernel
theorem dX12_trueWorth_26 : decode cX12_trueWorth 26 = .ok (.if_icmp .ne 12, 3) := by decide +kernel
theorem dX12_trueWorth_29 : decode cX12_trueWorth 29 = .ok (.aload_n 0, 1) := by decide +kernel
theorem dX12_trueWorth_30 : decode cX12_trueWorth 30 = .ok (.getfield 78, 3) := by decide +kernel
theorem dX12_trueWorth_33 : decode cX12_trueWorth 33 = .ok (.iload_n 1, 1) := by decide +kernel
theorem dX12_trueWorth_34 : decode cX12_trueWorth 34 = .ok (.iaload, 1) := by decide +kernel
theorem dX12_trueWorth_35 : decode cX12_trueWorth 35 = .ok (.goto 5, 3) := by decide +kernel
theorem dX12_trueWorth_38 : decode cX12_trueWorth 38 = .ok (.iload 4, 2) := by decide +kernel
theorem dX12_trueWorth_40 : decode cX12_trueWorth 40 = .ok (.ireturn, 1) := by decide +kernel
def mX12_trueWorth (t : Nat) (p1 : Int32) (p2 : Int32) (p3 : Bool) (σ : St_) : Option Int32 :=
 (bnd (fun (j1 : Int32) => (bnd (((9 : Int32) * p1) + j1) fun v4 =>
 (if bin v4 90 = true then bnd (σ.1 (t + 28) v4.toNatClampNeg) fun v5 =>
 (if v5 = (-1 : Int32) then
 (if bin p1 10 = true then bnd (σ.1 (t + 22) p1.toNatClampNeg) fun v6 =>
 (some v6)
 else none)
 else (some v5))
 else none))) fun k2 =>
 (if p3 = true then
 (k2 ((5 : Int32) + p2))
 else (k2 p2)))
set_option maxHeartbeats 4000000 in
theorem rX12_trueWorth (t : Nat) (p1 : Int32) (p2 : Int32) (p3 : Bool) (hT : LY12 sh P t) : Rj l D cA h0 ad yX12_trueWorth cX12_trueWorth 5 (some .int) false 2 0 0 (fun b => (some (.int b), sh, P, σ)) [.ref (h0 + t), .int p1, .int p2, .int (b2i p3)] sh P σ (mX12_trueWorth t p1 p2 p3 σ) := by
  rw [mX12_trueWorth]
  refine Rj.of (by decide) (fun h => by cases h) (Nat.le_of_ble_eq_true rfl) ?_
  refine tj_lv0 (lv' := [(0, .ref (h0 + t)), (1, .int p1), (2, .int p2), (3, .int (b2i p3))]) rfl ?_
  refine tj_aload_n (q := 1) dX12_trueWorth_0 rfl (i := 0) rfl (pl := 0) rfl ?_
  refine tj_getR (q := 4) (hT).s (hT).p_dear fok_12_44 wl_RX12_96 dX12_trueWorth_1 rfl ?_
  refine tj_bipush (q := 6) (v := 9) dX12_trueWorth_4 rfl (by decide) ?_
  refine tj_iload_n (q := 7) dX12_trueWorth_6 rfl (i := 1) rfl (pl := 1) rfl ?_
  refine tj_imul (q := 8) dX12_trueWorth_7 rfl ?_
  refine tj_iload_n (q := 9) dX12_trueWorth_8 rfl (i := 3) rfl (pl := 3) rfl ?_
  refine tj_bnd (fun k2 => ∀ (j1 : Int32), Tj l D cA h0 ad RX12 cX12_trueWorth 5 (some .int) false 2 0 0 (fun b => (some (.int b), sh, P, σ)) 0 0 sh P σ 19 [(0, .ref (h0 + t)), (1, .int p1)] [.int j1, .int ((9 : Int32) * p1), .ref (h0 + (t + 28))] (k2 j1)) ?_ (fun k2 hk3 => ?_)
  · intro j1
    refine tj_iadd (q := 20) dX12_trueWorth_19 rfl ?_
    refine tj_topI (fun v4 => ?_)
    refine tj_iaload (q := 21) (hT).s_dear dX12_trueWorth_20 rfl ?_
    refine tj_topI (fun v5 => ?_)
    refine tj_istore (q := 23) dX12_trueWorth_21 rfl (by decide) rfl ?_
    refine tj_iload (q := 25) dX12_trueWorth_23 rfl (pl := 0) rfl ?_
    refine tj_iconst (q := 26) (v := (-1)) dX12_trueWorth_25 rfl (by decide) ?_
    refine tj_icmp_ne (tgt := 38) (q := 29) dX12_trueWorth_26 (by decide) rfl ?_ ?_
    · refine tj_aload_n (q := 30) dX12_trueWorth_29 rfl (i := 0) rfl (pl := 1) rfl ?_
      refine tj_getR (q := 33) (hT).s (hT).p_worth fok_12_38 wl_RX12_78 dX12_trueWorth_30 rfl ?_
      refine tj_iload_n (q := 34) dX12_trueWorth_33 rfl (i := 1) rfl (pl := 2) rfl ?_
      refine tj_iaload (q := 35) (hT).s_worth dX12_trueWorth_34 rfl ?_
      refine tj_topI (fun v6 => ?_)
      refine tj_goto (q := 40) dX12_trueWorth_35 (by decide) ?_
      exact tj_iret rfl rfl (Nat.le_of_ble_eq_true rfl) (Nat.le_of_ble_eq_true rfl) dX12_trueWorth_40
    · refine tj_iload (q := 40) dX12_trueWorth_38 rfl (pl := 0) rfl ?_
      exact tj_iret rfl rfl (Nat.le_of_ble_eq_true rfl) (Nat.le_of_ble_eq_true rfl) dX12_trueWorth_40
  · refine tj_bz (tgt := 18) (q := 12) dX12_trueWorth_9 (by decide) rfl ?_ ?_
    · refine tj_iconst (q := 13) (v := 5) dX12_trueWorth_12 rfl (by decide) ?_
      refine tj_iload_n (q := 14) dX12_trueWorth_13 rfl (i := 2) rfl (pl := 2) rfl ?_
      refine tj_iadd (q := 15) dX12_trueWorth_14 rfl ?_
      refine tj_goto (q := 19) dX12_trueWorth_15 (by decide) ?_
      refine tj_lv [0, 1] rfl ?_
      exact hk3 ((5 : Int32) + p2)
    · refine tj_iload_n (q := 19) dX12_trueWorth_18 rfl (i := 2) rfl (pl := 2) rfl ?_
      refine tj_lv [0, 1] rfl ?_
      exact hk3 p2

theorem dX12_worthTo_0 : decode cX12_worthTo 0 = .ok (.iload_n 1, 1) := by decide +kernel
theorem dX12_worthTo_1 : decode cX12_worthTo 1 = .ok (.aload_n 0, 1) := by decide +kernel
theorem dX12_worthTo_2 : decode cX12_worthTo 2 = .ok (.getfield 108, 3) := by decide +kernel
theorem dX12_worthTo_5 : decode cX12_worthTo 5 = .ok (.if_icmp .ne 18, 3) := by decide +kernel
theorem dX12_worthTo_8 : decode cX12_worthTo 8 = .ok (.iload_n 2, 1) := by decide +kernel
theorem dX12_worthTo_9 : decode cX12_worthTo 9 = .ok (.aload_n 0, 1) := by decide +kernel
theorem dX12_worthTo_10 : decode cX12_worthTo 10 = .ok (.getfield 111, 3) := by decide +kernel
theorem dX12_worthTo_13 : decode cX12_worthTo 13 = .ok (.if_icmp .ne 10, 3) := by decide +kernel
theorem dX12_worthTo_16 : decode cX12_worthTo 16 = .ok (.aload_n 0, 1) := by decide +kernel
theorem dX12_worthTo_17 : decode cX12_worthTo 17 = .ok (.getfield 462, 3) := by decide +kernel
theorem dX12_worthTo_20 : decode cX12_worthTo 20 = .ok (.goto 10, 3) := by decide +kernel
theorem dX12_worthTo_23 : decode cX12_worthTo 23 = .ok (.aload_n 0, 1) := by decide +kernel
theorem dX12_worthTo_24 : decode cX12_worthTo 24 = .ok (.iload_n 1, 1) := by decide +kernel
theorem dX12_worthTo_25 : decode cX12_worthTo 25 = .ok (.iload_n 2, 1) := by decide +kernel
theorem dX12_worthTo_26 : decode cX12_worthTo 26 = .ok (.iconst 0, 1) := by decide +kernel
theorem dX12_worthTo_27 : decode cX12_worthTo 27 = .ok (.invokevirtual 465, 3) := by decide +kernel
theorem dX12_worthTo_30 : decode cX12_worthTo 30 = .ok (.ireturn, 1) := by decide +kernel
theorem wl_RX12_108 : Cond.fieldLink RX12 108 (TX12 64).1 (TX12 64).2.1 (TX12 64).2.2.1 ∈ TB := tbm 1479 (by decide +kernel) (by decide +kernel)
theorem wl_RX12_111 : Cond.fieldLink RX12 111 (TX12 65).1 (TX12 65).2.1 (TX12 65).2.2.1 ∈ TB := tbm 1480 (by decide +kernel) (by decide +kernel)
theorem wl_RX12_462 : Cond.fieldLink RX12 462 (TX12 66).1 (TX12 66).2.1 (TX12 66).2.2.1 ∈ TB := tbm 1481 (by decide +kernel) (by decide +kernel)
theorem wm_X12_trueWorth : Cond.instanceMethod yX12_trueWorth ∈ TB ∧ Cond.selects yX12_trueWorth.cls yX12_trueWorth yX12_trueWorth ∈ TB ∧ Cond.initialized yX12_trueWorth.cls ∈ TB ∧ Cond.code yX12_trueWorth cX12_trueWorth 5 (some .int) ∈ TB ∧ (yX12_trueWorth.cls ≠ "java/lang/invoke/MethodHandle" ∧ yX12_trueWorth.cls ≠ "java/lang/invoke/VarHandle" ∧ (parseMethodDescriptor yX12_trueWorth.desc).map (fun d => d.parameters.length) = some 3) ∧ 5 ≤ 21 := ⟨tbm 1903 (by decide +kernel) (by decide +kernel), tbm 92 (by decide +kernel) (by decide +kernel), tbm 146 (by decide +kernel) (by decide +kernel), tbm 1904 (by decide +kernel) (by decide +kernel), by decide +kernel, by decide⟩
theorem wi_RX12_465 : Iv RX12 465 yX12_trueWorth cX12_trueWorth 5 (some .int) 3 := ⟨tbm 1901 (by decide +kernel) (by decide +kernel), wm_X12_trueWorth⟩
def mX12_worthTo (t : Nat) (p1 : Int32) (p2 : Int32) (σ : St_) : Option Int32 :=
 (bnd ((mX12_trueWorth t p1 p2 false σ).bind fun r3 =>
 (some r3)) fun k1 =>
 (if p1 = (σ.1 t 64) then
 (if p2 = (σ.1 t 65) then
 (some (σ.1 t 66))
 else (k1))
 else (k1)))
set_option maxHeartbeats 4000000 in
theorem rX12_worthTo (t : Nat) (p1 : Int32) (p2 : Int32) (hT : LY12 sh P t) : Rj l D cA h0 ad yX12_worthTo cX12_worthTo 3 (some .int) false 3 0 0 (fun b => (some (.int b), sh, P, σ)) [.ref (h0 + t), .int p1, .int p2] sh P σ (mX12_worthTo t p1 p2 σ) := by
  rw [mX12_worthTo]
  refine Rj.of (by decide) (fun h => by cases h) (Nat.le_of_ble_eq_true rfl) ?_
  refine tj_lv0 (lv' := [(0, .ref (h0 + t)), (1, .int p1), (2, .int p2)]) rfl ?_
  refine tj_iload_n (q := 1) dX12_worthTo_0 rfl (i := 1) rfl (pl := 1) rfl ?_
  refine tj_aload_n (q := 2) dX12_worthTo_1 rfl (i := 0) rfl (pl := 0) rfl ?_
  refine tj_getI (q := 5) (hT).s fok_12_64 wl_RX12_108 dX12_worthTo_2 rfl ?_
  refine tj_bnd (fun k1 => Tj l D cA h0 ad RX12 cX12_worthTo 3 (some .int) false 3 0 0 (fun b => (some (.int b), sh, P, σ)) 0 0 sh P σ 23 [(0, .ref (h0 + t)), (1, .int p1), (2, .int p2)] [] k1) ?_ (fun k1 hk2 => ?_)
  · refine tj_aload_n (q := 24) dX12_worthTo_23 rfl (i := 0) rfl (pl := 0) rfl ?_
    refine tj_iload_n (q := 25) dX12_worthTo_24 rfl (i := 1) rfl (pl := 1) rfl ?_
    refine tj_iload_n (q := 26) dX12_worthTo_25 rfl (i := 2) rfl (pl := 2) rfl ?_
    refine tj_iconst (q := 27) (v := 0) dX12_worthTo_26 rfl (by decide) ?_
    refine tj_callIp (q := 30) (kj_V (As := [.int p1, .int p2, .int (0 : Int32)]) (rest := []) (t := t) wi_RX12_465 (hT).s rfl (rX12_trueWorth t p1 p2 false (hT)) rfl (Nat.le_of_ble_eq_true rfl) ⟨Nat.le_of_ble_eq_true rfl, Nat.le_of_ble_eq_true rfl⟩ (Nat.le_of_ble_eq_true rfl) dX12_worthTo_27) rfl (fun r3 => ?_)
    exact tj_iret rfl rfl (Nat.le_of_ble_eq_true rfl) (Nat.le_of_ble_eq_true rfl) dX12_worthTo_30
  · refine tj_icmp_ne (tgt := 23) (q := 8) dX12_worthTo_5 (by decide) rfl ?_ ?_
    · refine tj_iload_n (q := 9) dX12_worthTo_8 rfl (i := 2) rfl (pl := 2) rfl ?_
      refine tj_aload_n (q := 10) dX12_worthTo_9 rfl (i := 0) rfl (pl := 0) rfl ?_
      refine tj_getI (q := 13) (hT).s fok_12_65 wl_RX12_111 dX12_worthTo_10 rfl ?_
      refine tj_icmp_ne (tgt := 23) (q := 16) dX12_worthTo_13 (by decide) rfl ?_ ?_
      · refine tj_aload_n (q := 17) dX12_worthTo_16 rfl (i := 0) rfl (pl := 0) rfl ?_
        refine tj_getI (q := 20) (hT).s fok_12_66 wl_RX12_462 dX12_worthTo_17 rfl ?_
        refine tj_goto (q := 30) dX12_worthTo_20 (by decide) ?_
        exact tj_iret rfl rfl (Nat.le_of_ble_eq_true rfl) (Nat.le_of_ble_eq_true rfl) dX12_worthTo_30
      · exact hk2
    · exact hk2

theorem dX12_hasAt_0 : decode cX12_hasAt 0 = .ok (.iconst 0, 1) := by decide +kernel
theorem dX12_hasAt_1 : decode cX12_hasAt 1 = .ok (.istore_n 2, 1) := by decide +kernel
theorem dX12_hasAt_2 : decode cX12_hasAt 2 = .ok (.iconst 0, 1) := by decide +kernel
theorem dX12_hasAt_3 : decode cX12_hasAt 3 = .ok (.istore_n 3, 1) := by decide +kernel
theorem dX12_hasAt_4 : decode cX12_hasAt 4 = .ok (.iload_n 3, 1) := by decide +kernel
theorem dX12_hasAt_5 : decode cX12_hasAt 5 = .ok (.aload_n 0, 1) := by decide +kernel
theorem dX12_hasAt_6 : decode cX12_hasAt 6 = .ok (.getfield 419, 3) := by decide +kernel
theorem dX12_hasAt_9 : decode cX12_hasAt 9 = .ok (.if_icmp .ge 29, 3) := by decide +kernel
theorem dX12_hasAt_12 : decode cX12_hasAt 12 = .ok (.iload_n 2, 1) := by decide +kernel
theorem dX12_hasAt_13 : decode cX12_hasAt 13 = .ok (.aload_n 0, 1) := by decide +kernel
theorem dX12_hasAt_14 : decode cX12_hasAt 14 = .ok (.getfield 105, 3) := by decide +kernel
theorem dX12_hasAt_17 : decode cX12_hasAt 17 = .ok (.iload_n 3, 1) := by decide +kernel
theorem dX12_hasAt_18 : decode cX12_hasAt 18 = .ok (.iaload, 1) := by decide +kernel
theorem dX12_hasAt_19 : decode cX12_hasAt 19 = .ok (.iload_n 1, 1) := by decide +kernel
theorem dX12_hasAt_20 : decode cX12_hasAt 20 = .ok (.if_icmp .ne 9, 3) := by decide +kernel
theorem dX12_hasAt_23 : decode cX12_hasAt 23 = .ok (.iconst 1, 1) := by decide +kernel
theorem dX12_hasAt_24 : decode cX12_hasAt 24 = .ok (.iload_n 3, 1) := by decide +kernel
theorem dX12_hasAt_25 : decode cX12_hasAt 25 = .ok (.ishl, 1) := by decide +kernel
theorem dX12_hasAt_26 : decode cX12_hasAt 26 = .ok (.goto 4, 3) := by decide +kernel
theorem dX12_hasAt_29 : decode cX12_hasAt 29 = .ok (.iconst 0, 1) := by decide +kernel
theorem dX12_hasAt_30 : decode cX12_hasAt 30 = .ok (.ior, 1) := by decide +kernel
theorem dX12_hasAt_31 : decode cX12_hasAt 31 = .ok (.istore_n 2, 1) := by decide +kernel
theorem dX12_hasAt_32 : decode cX12_hasAt 32 = .ok (.iinc 3 1, 3) := by decide +kernel
theorem dX12_hasAt_35 : decode cX12_hasAt 35 = .ok (.goto (-31), 3) := by decide +kernel
theorem dX12_hasAt_38 : decode cX12_hasAt 38 = .ok (.iload_n 2, 1) := by decide +kernel
theorem dX12_hasAt_39 : decode cX12_hasAt 39 = .ok (.ireturn, 1) := by decide +kernel
def mX12_hasAt_L4 (t : Nat) (σ : St_) (x1 : Int32) : Nat → Int32 → Int32 → Option Int32
  | 0, _, _ => none
  | n + 1, x2, x3 => (if (σ.1 t 52) ≤ x3 then
 (some x2)
 else (if bin x3 10 = true then bnd (σ.1 (t + 30) x3.toNatClampNeg) fun v1 =>
 (bnd (fun (j2 : Int32) => (bnd (x2 ||| j2) fun v5 =>
 (mX12_hasAt_L4 t σ x1 n v5 (x3 + 1)))) fun k3 =>
 (if v1 = x1 then
 (k3 ((1 : Int32) <<< (x3 &&& 31)))
 else (k3 (0 : Int32))))
 else none))
def mX12_hasAt (t : Nat) (p1 : Int32) (σ : St_) : Option Int32 :=
 (mX12_hasAt_L4 t σ p1 FU (0 : Int32) (0 : Int32))
set_option maxHeartbeats 4000000 in
theorem tmX12_hasAt_L4 (σ : St_) (t : Nat) (hT : LY12 sh P t) (x1 : Int32) : ∀ (n : Nat) (x2 : Int32) (x3 : Int32), Tj l D cA h0 ad RX12 cX12_hasAt 4 (some .int) false 2 0 0 (fun b => (some (.int b), sh, P, σ)) 0 0 sh P σ 4 [(0, .ref (h0 + t)), (1, .int x1), (2, .int x2), (3, .int x3)] [] (mX12_hasAt_L4 t σ x1 n x2 x3) := by
  intro n
  induction n with
  | zero => intros; exact tj_none
  | succ n ih =>
    intro x2 x3
    rw [mX12_hasAt_L4]
    refine tj_iload_n (q := 5) dX12_hasAt_4 rfl (i := 3) rfl (pl := 3) rfl ?_
    refine tj_aload_n (q := 6) dX12_hasAt_5 rfl (i := 0) rfl (pl := 0) rfl ?_
    refine tj_getI (q := 9) (hT).s fok_12_52 wl_RX12_419 dX12_hasAt_6 rfl ?_
    refine tj_icmp_ge (tgt := 38) (q := 12) dX12_hasAt_9 (by decide) rfl ?_ ?_
    · refine tj_iload_n (q := 39) dX12_hasAt_38 rfl (i := 2) rfl (pl := 2) rfl ?_
      exact tj_iret rfl rfl (Nat.le_of_ble_eq_true rfl) (Nat.le_of_ble_eq_true rfl) dX12_hasAt_39
    · refine tj_iload_n (q := 13) dX12_hasAt_12 rfl (i := 2) rfl (pl := 2) rfl ?_
      refine tj_aload_n (q := 14) dX12_hasAt_13 rfl (i := 0) rfl (pl := 0) rfl ?_
      refine tj_getR (q := 17) (hT).s (hT).p_w fok_12_61 wl_RX12_105 dX12_hasAt_14 rfl ?_
      refine tj_iload_n (q := 18) dX12_hasAt_17 rfl (i := 3) rfl (pl := 3) rfl ?_
      refine tj_iaload (q := 19) (hT).s_w dX12_hasAt_18 rfl ?_
      refine tj_topI (fun v1 => ?_)
      refine tj_iload_n (q := 20) dX12_hasAt_19 rfl (i := 1) rfl (pl := 1) rfl ?_
      refine tj_bnd (fun k3 => ∀ (j2 : Int32), Tj l D cA h0 ad RX12 cX12_hasAt 4 (some .int) false 2 0 0 (fun b => (some (.int b), sh, P, σ)) 0 0 sh P σ 30 [(0, .ref (h0 + t)), (1, .int x1), (3, .int x3)] [.int j2, .int x2] (k3 j2)) ?_ (fun k3 hk4 => ?_)
      · intro j2
        refine tj_ior (q := 31) dX12_hasAt_30 rfl ?_
        refine tj_topI (fun v5 => ?_)
        refine tj_istore_n (q := 32) dX12_hasAt_31 rfl (i := 2) rfl (by decide) rfl ?_
        refine tj_iinc (q := 35) (v := x3 + 1) dX12_hasAt_32 rfl (pl := 3) rfl rfl (by decide) rfl ?_
        refine tj_goto (q := 4) dX12_hasAt_35 (by decide) ?_
        refine tj_lv [2, 3, 1, 0] rfl ?_
        exact ih v5 (x3 + 1)
      · refine tj_icmp_ne (tgt := 29) (q := 23) dX12_hasAt_20 (by decide) rfl ?_ ?_
        · refine tj_iconst (q := 24) (v := 1) dX12_hasAt_23 rfl (by decide) ?_
          refine tj_iload_n (q := 25) dX12_hasAt_24 rfl (i := 3) rfl (pl := 3) rfl ?_
          refine tj_ishl (q := 26) dX12_hasAt_25 rfl ?_
          refine tj_goto (q := 30) dX12_hasAt_26 (by decide) ?_
          refine tj_lv [0, 1, 3] rfl ?_
          exact hk4 ((1 : Int32) <<< (x3 &&& 31))
        · refine tj_iconst (q := 30) (v := 0) dX12_hasAt_29 rfl (by decide) ?_
          refine tj_lv [0, 1, 3] rfl ?_
          exact hk4 (0 : Int32)

set_option maxHeartbeats 4000000 in
theorem rX12_hasAt (t : Nat) (p1 : Int32) (hT : LY12 sh P t) : Rj l D cA h0 ad yX12_hasAt cX12_hasAt 4 (some .int) false 2 0 0 (fun b => (some (.int b), sh, P, σ)) [.ref (h0 + t), .int p1] sh P σ (mX12_hasAt t p1 σ) := by
  rw [mX12_hasAt]
  refine Rj.of (by decide) (fun h => by cases h) (Nat.le_of_ble_eq_true rfl) ?_
  refine tj_lv0 (lv' := [(0, .ref (h0 + t)), (1, .int p1)]) rfl ?_
  refine tj_iconst (q := 1) (v := 0) dX12_hasAt_0 rfl (by decide) ?_
  refine tj_istore_n (q := 2) dX12_hasAt_1 rfl (i := 2) rfl (by decide) rfl ?_
  refine tj_iconst (q := 3) (v := 0) dX12_hasAt_2 rfl (by decide) ?_
  refine tj_istore_n (q := 4) dX12_hasAt_3 rfl (i := 3) rfl (by decide) rfl ?_
  refine tj_lv [2, 3, 1, 0] rfl ?_
  exact tmX12_hasAt_L4 σ t hT p1 FU (0 : Int32) (0 : Int32)

theorem dX12_sumAt_0 : decode cX12_sumAt 0 = .ok (.iconst 0, 1) := by decide +kernel
theorem dX12_sumAt_1 : decode cX12_sumAt 1 = .ok (.istore 4, 2) := by decide +kernel
theorem dX12_sumAt_3 : decode cX12_sumAt 3 = .ok (.iconst 0, 1) := by decide +kernel
theorem dX12_sumAt_4 : decode cX12_sumAt 4 = .ok (.istore 5, 2) := by decide +kernel
theorem dX12_sumAt_6 : decode cX12_sumAt 6 = .ok (.iload 5, 2) := by decide +kernel
theorem dX12_sumAt_8 : decode cX12_sumAt 8 = .ok (.aload_n 0, 1) := by decide +kernel
theorem dX12_sumAt_9 : decode cX12_sumAt 9 = .ok (.getfield 419, 3) := by decide +kernel
theorem dX12_sumAt_12 : decode cX12_sumAt 12 = .ok (.if_icmp .ge 37, 3) := by decide +kernel
theorem dX12_sumAt_15 : decode cX12_sumAt 15 = .ok (.iload 4, 2) := by decide +kernel
theorem dX12_sumAt_17 : decode cX12_sumAt 17 = .ok (.aload_n 0, 1) := by decide +kernel
theorem dX12_sumAt_18 : decode cX12_sumAt 18 = .ok (.getfield 105, 3) := by decide +kernel
theorem dX12_sumAt_21 : decode cX12_sumAt 21 = .ok (.iload 5, 2) := by decide +kernel
theorem dX12_sumAt_23 : decode cX12_sumAt 23 = .ok (.iaload, 1) := by decide +kernel
theorem dX12_sumAt_24 : decode cX12_sumAt 24 = .ok (.iload_n 1, 1) := by decide +kernel
theorem dX12_sumAt_25 : decode cX12_sumAt 25 = .ok (.if_icmp .ne 14, 3) := by decide +kernel
theorem dX12_sumAt_28 : decode cX12_sumAt 28 = .ok (.aload_n 0, 1) := by decide +kernel
theorem dX12_sumAt_29 : decode cX12_sumAt 29 = .ok (.iload 5, 2) := by decide +kernel
theorem dX12_sumAt_31 : decode cX12_sumAt 31 = .ok (.iload_n 2, 1) := by decide +kernel
theorem dX12_sumAt_32 : decode cX12_sumAt 32 = .ok (.iload_n 3, 1) := by decide +kernel
theorem dX12_sumAt_33 : decode cX12_sumAt 33 = .ok (.invokevirtual 465, 3) := by decide +kernel
theorem dX12_sumAt_36 : decode cX12_sumAt 36 = .ok (.goto 4, 3) := by decide +kernel
theorem dX12_sumAt_39 : decode cX12_sumAt 39 = .ok (.iconst 0, 1) := by decide +kernel
theorem dX12_sumAt_40 : decode cX12_sumAt 40 = .ok (.iadd, 1) := by decide +kernel
theorem dX12_sumAt_41 : decode cX12_sumAt 41 = .ok (.istore 4, 2) := by decide +kernel
theorem dX12_sumAt_43 : decode cX12_sumAt 43 = .ok (.iinc 5 1, 3) := by decide +kernel
theorem dX12_sumAt_46 : decode cX12_sumAt 46 = .ok (.goto (-40), 3) := by decide +kernel
theorem dX12_sumAt_49 : decode cX12_sumAt 49 = .ok (.iload 4, 2) := by decide +kernel
theorem dX12_sumAt_51 : decode cX12_sumAt 51 = .ok (.ireturn, 1) := by decide +kernel
def mX12_sumAt_L6 (t : Nat) (σ : St_) (x1 : Int32) (x2 : Int32) (x3 : Bool) : Nat → Int32 → Int32 → Option Int32
  | 0, _, _ => none
  | n + 1, x4, x5 => (if (σ.1 t 52) ≤ x5 then
 (some x4)
 else (if bin x5 10 = true then bnd (σ.1 (t + 30) x5.toNatClampNeg) fun v1 =>
 (bnd (fun (j2 : Int32) => (bnd (x4 + j2) fun v5 =>
 (mX12_sumAt_L6 t σ x1 x2 x3 n v5 (x5 + 1)))) fun k3 =>
 (if v1 = x1 then
 ((mX12_trueWorth t x5 x2 x3 σ).bind fun r6 =>
 (k3 r6))
 else (k3 (0 : Int32))))
 else none))
def mX12_sumAt (t : Nat) (p1 : Int32) (p2 : Int32) (p3 : Bool) (σ : St_) : Option Int32 :=
 (mX12_sumAt_L6 t σ p1 p2 p3 FU (0 : Int32) (0 : Int32))
set_option maxHeartbeats 4000000 in
theorem tmX12_sumAt_L6 (σ : St_) (t : Nat) (hT : LY12 sh P t) (x1 : Int32) (x2 : Int32) (x3 : Bool) : ∀ (n : Nat) (x4 : Int32) (x5 : Int32), Tj l D cA h0 ad RX12 cX12_sumAt 6 (some .int) false 3 0 0 (fun b => (some (.int b), sh, P, σ)) 0 0 sh P σ 6 [(0, .ref (h0 + t)), (1, .int x1), (2, .int x2), (3, .int (b2i x3)), (4, .int x4), (5, .int x5)] [] (mX12_sumAt_L6 t σ x1 x2 x3 n x4 x5) := by
  intro n
  induction n with
  | zero => intros; exact tj_none
  | succ n ih =>
    intro x4 x5
    rw [mX12_sumAt_L6]
    refine tj_iload (q := 8) dX12_sumAt_6 rfl (pl := 5) rfl ?_
    refine tj_aload_n (q := 9) dX12_sumAt_8 rfl (i := 0) rfl (pl := 0) rfl ?_
    refine tj_getI (q := 12) (hT).s fok_12_52 wl_RX12_419 dX12_sumAt_9 rfl ?_
    refine tj_icmp_ge (tgt := 49) (q := 15) dX12_sumAt_12 (by decide) rfl ?_ ?_
    · refine tj_iload (q := 51) dX12_sumAt_49 rfl (pl := 4) rfl ?_
      exact tj_iret rfl rfl (Nat.le_of_ble_eq_true rfl) (Nat.le_of_ble_eq_true rfl) dX12_sumAt_51
    · refine tj_iload (q := 17) dX12_sumAt_15 rfl (pl := 4) rfl ?_
      refine tj_aload_n (q := 18) dX12_sumAt_17 rfl (i := 0) rfl (pl := 0) rfl ?_
      refine tj_getR (q := 21) (hT).s (hT).p_w fok_12_61 wl_RX12_105 dX12_sumAt_18 rfl ?_
      refine tj_iload (q := 23) dX12_sumAt_21 rfl (pl := 5) rfl ?_
      refine tj_iaload (q := 24) (hT).s_w dX12_sumAt_23 rfl ?_
      refine tj_topI (fun v1 => ?_)
      refine tj_iload_n (q := 25) dX12_sumAt_24 rfl (i := 1) rfl (pl := 1) rfl ?_
      refine tj_bnd (fun k3 => ∀ (j2 : Int32), Tj l D cA h0 ad RX12 cX12_sumAt 6 (some .int) false 3 0 0 (fun b => (some (.int b), sh, P, σ)) 0 0 sh P σ 40 [(0, .ref (h0 + t)), (1, .int x1), (2, .int x2), (3, .int (b2i x3)), (5, .int x5)] [.int j2, .int x4] (k3 j2)) ?_ (fun k3 hk4 => ?_)
      · intro j2
        refine tj_iadd (q := 41) dX12_sumAt_40 rfl ?_
        refine tj_topI (fun v5 => ?_)
        refine tj_istore (q := 43) dX12_sumAt_41 rfl (by decide) rfl ?_
        refine tj_iinc (q := 46) (v := x5 + 1) dX12_sumAt_43 rfl (pl := 5) rfl rfl (by decide) rfl ?_
        refine tj_goto (q := 6) dX12_sumAt_46 (by decide) ?_
        refine tj_lv [2, 3, 4, 5, 1, 0] rfl ?_
        exact ih v5 (x5 + 1)
      · refine tj_icmp_ne (tgt := 39) (q := 28) dX12_sumAt_25 (by decide) rfl ?_ ?_
        · refine tj_aload_n (q := 29) dX12_sumAt_28 rfl (i := 0) rfl (pl := 0) rfl ?_
          refine tj_iload (q := 31) dX12_sumAt_29 rfl (pl := 5) rfl ?_
          refine tj_iload_n (q := 32) dX12_sumAt_31 rfl (i := 2) rfl (pl := 2) rfl ?_
          refine tj_iload_n (q := 33) dX12_sumAt_32 rfl (i := 3) rfl (pl := 3) rfl ?_
          refine tj_callIp (q := 36) (kj_V (As := [.int x5, .int x2, .int (b2i x3)]) (rest := [.int x4]) (t := t) wi_RX12_465 (hT).s rfl (rX12_trueWorth t x5 x2 x3 (hT)) rfl (Nat.le_of_ble_eq_true rfl) ⟨Nat.le_of_ble_eq_true rfl, Nat.le_of_ble_eq_true rfl⟩ (Nat.le_of_ble_eq_true rfl) dX12_sumAt_33) rfl (fun r6 => ?_)
          refine tj_goto (q := 40) dX12_sumAt_36 (by decide) ?_
          refine tj_lv [0, 1, 2, 3, 5] rfl ?_
          exact hk4 r6
        · refine tj_iconst (q := 40) (v := 0) dX12_sumAt_39 rfl (by decide) ?_
          refine tj_lv [0, 1, 2, 3, 5] rfl ?_
          exact hk4 (0 : Int32)

set_option maxHeartbeats 4000000 in
theorem rX12_sumAt (t : Nat) (p1 : Int32) (p2 : Int32) (p3 : Bool) (hT : LY12 sh P t) : Rj l D cA h0 ad yX12_sumAt cX12_sumAt 6 (some .int) false 3 0 0 (fun b => (some (.int b), sh, P, σ)) [.ref (h0 + t), .int p1, .int p2, .int (b2i p3)] sh P σ (mX12_sumAt t p1 p2 p3 σ) := by
  rw [mX12_sumAt]
  refine Rj.of (by decide) (fun h => by cases h) (Nat.le_of_ble_eq_true rfl) ?_
  refine tj_lv0 (lv' := [(0, .ref (h0 + t)), (1, .int p1), (2, .int p2), (3, .int (b2i p3))]) rfl ?_
  refine tj_iconst (q := 1) (v := 0) dX12_sumAt_0 rfl (by decide) ?_
  refine tj_istore (q := 3) dX12_sumAt_1 rfl (by decide) rfl ?_
  refine tj_iconst (q := 4) (v := 0) dX12_sumAt_3 rfl (by decide) ?_
  refine tj_istore (q := 6) dX12_sumAt_4 rfl (by decide) rfl ?_
  refine tj_lv [2, 3, 4, 5, 1, 0] rfl ?_
  exact tmX12_sumAt_L6 σ t hT p1 p2 p3 FU (0 : Int32) (0 : Int32)

theorem dX12_members_0 : decode cX12_members 0 = .ok (.iconst 0, 1) := by decide +kernel
theorem dX12_members_1 : decode cX12_members 1 = .ok (.istore_n 1, 1) := by decide +kernel
theorem dX12_members_2 : decode cX12_members 2 = .ok (.iconst 0, 1) := by decide +kernel
theorem dX12_members_3 : decode cX12_members 3 = .ok (.istore_n 2, 1) := by decide +kernel
theorem dX12_members_4 : decode cX12_members 4 = .ok (.iload_n 2, 1) := by decide +kernel
theorem dX12_members_5 : decode cX12_members 5 = .ok (.bipush 10, 2) := by decide +kernel
theorem dX12_members_7 : decode cX12_members 7 = .ok (.if_icmp .ge 17, 3) := by decide +kernel
theorem dX12_members_10 : decode cX12_members 10 = .ok (.iload_n 1, 1) := by decide +kernel
theorem dX12_members_11 : decode cX12_members 11 = .ok (.iload_n 0, 1) := by decide +kernel
theorem dX12_members_12 : decode cX12_members 12 = .ok (.iload_n 2, 1) := by decide +kernel
theorem dX12_members_13 : decode cX12_members 13 = .ok (.ishr, 1) := by decide +kernel
theorem dX12_members_14 : decode cX12_members 14 = .ok (.iconst 1, 1) := by decide +kernel
theorem dX12_members_15 : decode cX12_members 15 = .ok (.iand, 1) := by decide +kernel
theorem dX12_members_16 : decode cX12_members 16 = .ok (.iadd, 1) := by decide +kernel
theorem dX12_members_17 : decode cX12_members 17 = .ok (.istore_n 1, 1) := by decide +kernel
theorem dX12_members_18 : decode cX12_members 18 = .ok (.iinc 2 1, 3) := by decide +kernel
theorem dX12_members_21 : decode cX12_members 21 = .ok (.goto (-17), 3) := by decide +kernel
theorem dX12_members_24 : decode cX12_members 24 = .ok (.iload_n 1, 1) := by decide +kernel
theorem dX12_members_25 : decode cX12_members 25 = .ok (.ireturn, 1) := by decide +kernel
def mX12_members_L4 (σ : St_) (x0 : Int32) : Nat → Int32 → Int32 → Option Int32
  | 0, _, _ => none
  | n + 1, x1, x2 => (if (10 : Int32) ≤ x2 then
 (some x1)
 else (bnd (x1 + ((x0 >>> (x2 &&& 31)) &&& (1 : Int32))) fun v1 =>
 (mX12_members_L4 σ x0 n v1 (x2 + 1))))
def mX12_members (p1 : Int32) (σ : St_) : Option Int32 :=
 (mX12_members_L4 σ p1 FU (0 : Int32) (0 : Int32))
set_option maxHeartbeats 4000000 in
theorem tmX12_members_L4 (σ : St_) (x0 : Int32) : ∀ (n : Nat) (x1 : Int32) (x2 : Int32), Tj l D cA h0 ad RX12 cX12_members 3 (some .int) false 2 0 0 (fun b => (some (.int b), sh, P, σ)) 0 0 sh P σ 4 [(0, .int x0), (1, .int x1), (2, .int x2)] [] (mX12_members_L4 σ x0 n x1 x2) := by
  intro n
  induction n with
  | zero => intros; exact tj_none
  | succ n ih =>
    intro x1 x2
    rw [mX12_members_L4]
    refine tj_iload_n (q := 5) dX12_members_4 rfl (i := 2) rfl (pl := 2) rfl ?_
    refine tj_bipush (q := 7) (v := 10) dX12_members_5 rfl (by decide) ?_
    refine tj_icmp_ge (tgt := 24) (q := 10) dX12_members_7 (by decide) rfl ?_ ?_
    · refine tj_iload_n (q := 25) dX12_members_24 rfl (i := 1) rfl (pl := 1) rfl ?_
      exact tj_iret rfl rfl (Nat.le_of_ble_eq_true rfl) (Nat.le_of_ble_eq_true rfl) dX12_members_25
    · refine tj_iload_n (q := 11) dX12_members_10 rfl (i := 1) rfl (pl := 1) rfl ?_
      refine tj_iload_n (q := 12) dX12_members_11 rfl (i := 0) rfl (pl := 0) rfl ?_
      refine tj_iload_n (q := 13) dX12_members_12 rfl (i := 2) rfl (pl := 2) rfl ?_
      refine tj_ishr (q := 14) dX12_members_13 rfl ?_
      refine tj_iconst (q := 15) (v := 1) dX12_members_14 rfl (by decide) ?_
      refine tj_iand (q := 16) dX12_members_15 rfl ?_
      refine tj_iadd (q := 17) dX12_members_16 rfl ?_
      refine tj_topI (fun v1 => ?_)
      refine tj_istore_n (q := 18) dX12_members_17 rfl (i := 1) rfl (by decide) rfl ?_
      refine tj_iinc (q := 21) (v := x2 + 1) dX12_members_18 rfl (pl := 2) rfl rfl (by decide) rfl ?_
      refine tj_goto (q := 4) dX12_members_21 (by decide) ?_
      refine tj_lv [2, 1, 0] rfl ?_
      exact ih v1 (x2 + 1)

set_option maxHeartbeats 4000000 in
theorem rX12_members (p1 : Int32)  : Rj l D cA h0 ad yX12_members cX12_members 3 (some .int) false 2 0 0 (fun b => (some (.int b), sh, P, σ)) [.int p1] sh P σ (mX12_members p1 σ) := by
  rw [mX12_members]
  refine Rj.of (by decide) (fun h => by cases h) (Nat.le_of_ble_eq_true rfl) ?_
  refine tj_lv0 (lv' := [(0, .int p1)]) rfl ?_
  refine tj_iconst (q := 1) (v := 0) dX12_members_0 rfl (by decide) ?_
  refine tj_istore_n (q := 2) dX12_members_1 rfl (i := 1) rfl (by decide) rfl ?_
  refine tj_iconst (q := 3) (v := 0) dX12_members_2 rfl (by decide) ?_
  refine tj_istore_n (q := 4) dX12_members_3 rfl (i := 2) rfl (by decide) rfl ?_
  refine tj_lv [2, 1, 0] rfl ?_
  exact tmX12_members_L4 σ p1 FU (0 : Int32) (0 : Int32)

theorem dX12_weightOf_0 : decode cX12_weightOf 0 = .ok (.iconst 0, 1) := by decide +kernel
theorem dX12_weightOf_1 : decode cX12_weightOf 1 = .ok (.istore_n 2, 1) := by decide +kernel
theorem dX12_weightOf_2 : decode cX12_weightOf 2 = .ok (.iconst 0, 1) := by decide +kernel
theorem dX12_weightOf_3 : decode cX12_weightOf 3 = .ok (.istore_n 3, 1) := by decide +kernel
theorem dX12_weightOf_4 : decode cX12_weightOf 4 = .ok (.iload_n 3, 1) := by decide +kernel
theorem dX12_weightOf_5 : decode cX12_weightOf 5 = .ok (.aload_n 0, 1) := by decide +kernel
theorem dX12_weightOf_6 : decode cX12_weightOf 6 = .ok (.getfield 419, 3) := by decide +kernel
theorem dX12_weightOf_9 : decode cX12_weightOf 9 = .ok (.if_icmp .ge 31, 3) := by decide +kernel
theorem dX12_weightOf_12 : decode cX12_weightOf 12 = .ok (.iload_n 2, 1) := by decide +kernel
theorem dX12_weightOf_13 : decode cX12_weightOf 13 = .ok (.iload_n 1, 1) := by decide +kernel
theorem dX12_weightOf_14 : decode cX12_weightOf 14 = .ok (.iload_n 3, 1) := by decide +kernel
theorem dX12_weightOf_15 : decode cX12_weightOf 15 = .ok (.ishr, 1) := by decide +kernel
theorem dX12_weightOf_16 : decode cX12_weightOf 16 = .ok (.iconst 1, 1) := by decide +kernel
theorem dX12_weightOf_17 : decode cX12_weightOf 17 = .ok (.iand, 1) := by decide +kernel
theorem dX12_weightOf_18 : decode cX12_weightOf 18 = .ok (.iconst 1, 1) := by decide +kernel
theorem dX12_weightOf_19 : decode cX12_weightOf 19 = .ok (.if_icmp .ne 12, 3) := by decide +kernel
theorem dX12_weightOf_22 : decode cX12_weightOf 22 = .ok (.aload_n 0, 1) := by decide +kernel
theorem dX12_weightOf_23 : decode cX12_weightOf 23 = .ok (.getfield 75, 3) := by decide +kernel
theorem dX12_weightOf_26 : decode cX12_weightOf 26 = .ok (.iload_n 3, 1) := by decide +kernel
theorem dX12_weightOf_27 : decode cX12_weightOf 27 = .ok (.iaload, 1) := by decide +kernel
theorem dX12_weightOf_28 : decode cX12_weightOf 28 = .ok (.goto 4, 3) := by decide +kernel
theorem dX12_weightOf_31 : decode cX12_weightOf 31 = .ok (.iconst 0, 1) := by decide +kernel
theorem dX12_weightOf_32 : decode cX12_weightOf 32 = .ok (.iadd, 1) := by decide +kernel
theorem dX12_weightOf_33 : decode cX12_weightOf 33 = .ok (.istore_n 2, 1) := by decide +kernel
theorem dX12_weightOf_34 : decode cX12_weightOf 34 = .ok (.iinc 3 1, 3) := by decide +kernel
theorem dX12_weightOf_37 : decode cX12_weightOf 37 = .ok (.goto (-33), 3) := by decide +kernel
theorem dX12_weightOf_40 : decode cX12_weightOf 40 = .ok (.iload_n 2, 1) := by decide +kernel
theorem dX12_weightOf_41 : decode cX12_weightOf 41 = .ok (.ireturn, 1) := by decide +kernel
def mX12_weightOf_L4 (t : Nat) (σ : St_) (x1 : Int32) : Nat → Int32 → Int32 → Option Int32
  | 0, _, _ => none
  | n + 1, x2, x3 => (if (σ.1 t 52) ≤ x3 then
 (some x2)
 else (bnd (fun (j1 : Int32) => (bnd (x2 + j1) fun v4 =>
 (mX12_weightOf_L4 t σ x1 n v4 (x3 + 1)))) fun k2 =>
 (if ((x1 >>> (x3 &&& 31)) &&& (1 : Int32)) = (1 : Int32) then
 (if bin x3 10 = true then bnd (σ.1 (t + 21) x3.toNatClampNeg) fun v5 =>
 (k2 v5)
 else none)
 else (k2 (0 : Int32)))))
def mX12_weightOf (t : Nat) (p1 : Int32) (σ : St_) : Option Int32 :=
 (mX12_weightOf_L4 t σ p1 FU (0 : Int32) (0 : Int32))
set_option maxHeartbeats 4000000 in
theorem tmX12_weightOf_L4 (σ : St_) (t : Nat) (hT : LY12 sh P t) (x1 : Int32) : ∀ (n : Nat) (x2 : Int32) (x3 : Int32), Tj l D cA h0 ad RX12 cX12_weightOf 4 (some .int) false 2 0 0 (fun b => (some (.int b), sh, P, σ)) 0 0 sh P σ 4 [(0, .ref (h0 + t)), (1, .int x1), (2, .int x2), (3, .int x3)] [] (mX12_weightOf_L4 t σ x1 n x2 x3) := by
  intro n
  induction n with
  | zero => intros; exact tj_none
  | succ n ih =>
    intro x2 x3
    rw [mX12_weightOf_L4]
    refine tj_iload_n (q := 5) dX12_weightOf_4 rfl (i := 3) rfl (pl := 3) rfl ?_
    refine tj_aload_n (q := 6) dX12_weightOf_5 rfl (i := 0) rfl (pl := 0) rfl ?_
    refine tj_getI (q := 9) (hT).s fok_12_52 wl_RX12_419 dX12_weightOf_6 rfl ?_
    refine tj_icmp_ge (tgt := 40) (q := 12) dX12_weightOf_9 (by decide) rfl ?_ ?_
    · refine tj_iload_n (q := 41) dX12_weightOf_40 rfl (i := 2) rfl (pl := 2) rfl ?_
      exact tj_iret rfl rfl (Nat.le_of_ble_eq_true rfl) (Nat.le_of_ble_eq_true rfl) dX12_weightOf_41
    · refine tj_iload_n (q := 13) dX12_weightOf_12 rfl (i := 2) rfl (pl := 2) rfl ?_
      refine tj_iload_n (q := 14) dX12_weightOf_13 rfl (i := 1) rfl (pl := 1) rfl ?_
      refine tj_iload_n (q := 15) dX12_weightOf_14 rfl (i := 3) rfl (pl := 3) rfl ?_
      refine tj_ishr (q := 16) dX12_weightOf_15 rfl ?_
      refine tj_iconst (q := 17) (v := 1) dX12_weightOf_16 rfl (by decide) ?_
      refine tj_iand (q := 18) dX12_weightOf_17 rfl ?_
      refine tj_iconst (q := 19) (v := 1) dX12_weightOf_18 rfl (by decide) ?_
      refine tj_bnd (fun k2 => ∀ (j1 : Int32), Tj l D cA h0 ad RX12 cX12_weightOf 4 (some .int) false 2 0 0 (fun b => (some (.int b), sh, P, σ)) 0 0 sh P σ 32 [(0, .ref (h0 + t)), (1, .int x1), (3, .int x3)] [.int j1, .int x2] (k2 j1)) ?_ (fun k2 hk3 => ?_)
      · intro j1
        refine tj_iadd (q := 33) dX12_weightOf_32 rfl ?_
        refine tj_topI (fun v4 => ?_)
        refine tj_istore_n (q := 34) dX12_weightOf_33 rfl (i := 2) rfl (by decide) rfl ?_
        refine tj_iinc (q := 37) (v := x3 + 1) dX12_weightOf_34 rfl (pl := 3) rfl rfl (by decide) rfl ?_
        refine tj_goto (q := 4) dX12_weightOf_37 (by decide) ?_
        refine tj_lv [2, 3, 1, 0] rfl ?_
        exact ih v4 (x3 + 1)
      · refine tj_icmp_ne (tgt := 31) (q := 22) dX12_weightOf_19 (by decide) rfl ?_ ?_
        · refine tj_aload_n (q := 23) dX12_weightOf_22 rfl (i := 0) rfl (pl := 0) rfl ?_
          refine tj_getR (q := 26) (hT).s (hT).p_weight fok_12_37 wl_RX12_75 dX12_weightOf_23 rfl ?_
          refine tj_iload_n (q := 27) dX12_weightOf_26 rfl (i := 3) rfl (pl := 3) rfl ?_
          refine tj_iaload (q := 28) (hT).s_weight dX12_weightOf_27 rfl ?_
          refine tj_topI (fun v5 => ?_)
          refine tj_goto (q := 32) dX12_weightOf_28 (by decide) ?_
          refine tj_lv [0, 1, 3] rfl ?_
          exact hk3 v5
        · refine tj_iconst (q := 32) (v := 0) dX12_weightOf_31 rfl (by decide) ?_
          refine tj_lv [0, 1, 3] rfl ?_
          exact hk3 (0 : Int32)

set_option maxHeartbeats 4000000 in
theorem rX12_weightOf (t : Nat) (p1 : Int32) (hT : LY12 sh P t) : Rj l D cA h0 ad yX12_weightOf cX12_weightOf 4 (some .int) false 2 0 0 (fun b => (some (.int b), sh, P, σ)) [.ref (h0 + t), .int p1] sh P σ (mX12_weightOf t p1 σ) := by
  rw [mX12_weightOf]
  refine Rj.of (by decide) (fun h => by cases h) (Nat.le_of_ble_eq_true rfl) ?_
  refine tj_lv0 (lv' := [(0, .ref (h0 + t)), (1, .int p1)]) rfl ?_
  refine tj_iconst (q := 1) (v := 0) dX12_weightOf_0 rfl (by decide) ?_
  refine tj_istore_n (q := 2) dX12_weightOf_1 rfl (i := 2) rfl (by decide) rfl ?_
  refine tj_iconst (q := 3) (v := 0) dX12_weightOf_2 rfl (by decide) ?_
  refine tj_istore_n (q := 4) dX12_weightOf_3 rfl (i := 3) rfl (by decide) rfl ?_
  refine tj_lv [2, 3, 1, 0] rfl ?_
  exact tmX12_weightOf_L4 σ t hT p1 FU (0 : Int32) (0 : Int32)

theorem dX12_minutesOf_0 : decode cX12_minutesOf 0 = .ok (.aload_n 0, 1) := by decide +kernel
theorem dX12_minutesOf_1 : decode cX12_minutesOf 1 = .ok (.getfield 84, 3) := by decide +kernel
theorem dX12_minutesOf_4 : decode cX12_minutesOf 4 = .ok (.iload_n 2, 1) := by decide +kernel
theorem dX12_minutesOf_5 : decode cX12_minutesOf 5 = .ok (.iaload, 1) := by decide +kernel
theorem dX12_minutesOf_6 : decode cX12_minutesOf 6 = .ok (.aload_n 0, 1) := by decide +kernel
theorem dX12_minutesOf_7 : decode cX12_minutesOf 7 = .ok (.getfield 93, 3) := by decide +kernel
theorem dX12_minutesOf_10 : decode cX12_minutesOf 10 = .ok (.iload_n 1, 1) := by decide +kernel
theorem dX12_minutesOf_11 : decode cX12_minutesOf 11 = .ok (.iaload, 1) := by decide +kernel
theorem dX12_minutesOf_12 : decode cX12_minutesOf 12 = .ok (.isub, 1) := by decide +kernel
theorem dX12_minutesOf_13 : decode cX12_minutesOf 13 = .ok (.iconst 1, 1) := by decide +kernel
theorem dX12_minutesOf_14 : decode cX12_minutesOf 14 = .ok (.if_icmp .ge 7, 3) := by decide +kernel
theorem dX12_minutesOf_17 : decode cX12_minutesOf 17 = .ok (.iconst 1, 1) := by decide +kernel
theorem dX12_minutesOf_18 : decode cX12_minutesOf 18 = .ok (.goto 16, 3) := by decide +kernel
theorem dX12_minutesOf_21 : decode cX12_minutesOf 21 = .ok (.aload_n 0, 1) := by decide +kernel
theorem dX12_minutesOf_22 : decode cX12_minutesOf 22 = .ok (.getfield 84, 3) := by decide +kernel
theorem dX12_minutesOf_25 : decode cX12_minutesOf 25 = .ok (.iload_n 2, 1) := by decide +kernel
theorem dX12_minutesOf_26 : decode cX12_minutesOf 26 = .ok (.iaload, 1) := by decide +kernel
theorem dX12_minutesOf_27 : decode cX12_minutesOf 27 = .ok (.aload_n 0, 1) := by decide +kernel
theorem dX12_minutesOf_28 : decode cX12_minutesOf 28 = .ok (.getfield 93, 3) := by decide +kernel
theorem dX12_minutesOf_31 : decode cX12_minutesOf 31 = .ok (.iload_n 1, 1) := by decide +kernel
theorem dX12_minutesOf_32 : decode cX12_minutesOf 32 = .ok (.iaload, 1) := by decide +kernel
theorem dX12_minutesOf_33 : decode cX12_minutesOf 33 = .ok (.isub, 1) := by decide +kernel
theorem dX12_minutesOf_34 : decode cX12_minutesOf 34 = .ok (.iconst 2, 1) := by decide +kernel
theorem dX12_minutesOf_35 : decode cX12_minutesOf 35 = .ok (.iload_n 3, 1) := by decide +kernel
theorem dX12_minutesOf_36 : decode cX12_minutesOf 36 = .ok (.imul, 1) := by decide +kernel
theorem dX12_minutesOf_37 : decode cX12_minutesOf 37 = .ok (.iadd, 1) := by decide +kernel
theorem dX12_minutesOf_38 : decode cX12_minutesOf 38 = .ok (.ireturn, 1) := by decide +kernel
def mX12_minutesOf (t : Nat) (p1 : Int32) (p2 : Int32) (p3 : Int32) (σ : St_) : Option Int32 :=
 (if bin p2 5 = true then bnd (σ.1 (t + 24) p2.toNatClampNeg) fun v1 =>
 (if bin p1 4 = true then bnd (σ.1 (t + 27) p1.toNatClampNeg) fun v2 =>
 (if (1 : Int32) ≤ (v1 - v2) then
 (if bin p2 5 = true then bnd (σ.1 (t + 24) p2.toNatClampNeg) fun v3 =>
 (if bin p1 4 = true then bnd (σ.1 (t + 27) p1.toNatClampNeg) fun v4 =>
 (some ((v3 - v4) + ((2 : Int32) * p3)))
 else none)
 else none)
 else (some ((1 : Int32) + ((2 : Int32) * p3))))
 else none)
 else none)
set_option maxHeartbeats 4000000 in
theorem rX12_minutesOf (t : Nat) (p1 : Int32) (p2 : Int32) (p3 : Int32) (hT : LY12 sh P t) : Rj l D cA h0 ad yX12_minutesOf cX12_minutesOf 4 (some .int) false 2 0 0 (fun b => (some (.int b), sh, P, σ)) [.ref (h0 + t), .int p1, .int p2, .int p3] sh P σ (mX12_minutesOf t p1 p2 p3 σ) := by
  rw [mX12_minutesOf]
  refine Rj.of (by decide) (fun h => by cases h) (Nat.le_of_ble_eq_true rfl) ?_
  refine tj_lv0 (lv' := [(0, .ref (h0 + t)), (1, .int p1), (2, .int p2), (3, .int p3)]) rfl ?_
  refine tj_aload_n (q := 1) dX12_minutesOf_0 rfl (i := 0) rfl (pl := 0) rfl ?_
  refine tj_getR (q := 4) (hT).s (hT).p_lock fok_12_40 wl_RX12_84 dX12_minutesOf_1 rfl ?_
  refine tj_iload_n (q := 5) dX12_minutesOf_4 rfl (i := 2) rfl (pl := 2) rfl ?_
  refine tj_iaload (q := 6) (hT).s_lock dX12_minutesOf_5 rfl ?_
  refine tj_topI (fun v1 => ?_)
  refine tj_aload_n (q := 7) dX12_minutesOf_6 rfl (i := 0) rfl (pl := 0) rfl ?_
  refine tj_getR (q := 10) (hT).s (hT).p_skill fok_12_43 wl_RX12_93 dX12_minutesOf_7 rfl ?_
  refine tj_iload_n (q := 11) dX12_minutesOf_10 rfl (i := 1) rfl (pl := 1) rfl ?_
  refine tj_iaload (q := 12) (hT).s_skill dX12_minutesOf_11 rfl ?_
  refine tj_topI (fun v2 => ?_)
  refine tj_isub (q := 13) dX12_minutesOf_12 rfl ?_
  refine tj_iconst (q := 14) (v := 1) dX12_minutesOf_13 rfl (by decide) ?_
  refine tj_icmp_ge (tgt := 21) (q := 17) dX12_minutesOf_14 (by decide) rfl ?_ ?_
  · refine tj_aload_n (q := 22) dX12_minutesOf_21 rfl (i := 0) rfl (pl := 0) rfl ?_
    refine tj_getR (q := 25) (hT).s (hT).p_lock fok_12_40 wl_RX12_84 dX12_minutesOf_22 rfl ?_
    refine tj_iload_n (q := 26) dX12_minutesOf_25 rfl (i := 2) rfl (pl := 2) rfl ?_
    refine tj_iaload (q := 27) (hT).s_lock dX12_minutesOf_26 rfl ?_
    refine tj_topI (fun v3 => ?_)
    refine tj_aload_n (q := 28) dX12_minutesOf_27 rfl (i := 0) rfl (pl := 0) rfl ?_
    refine tj_getR (q := 31) (hT).s (hT).p_skill fok_12_43 wl_RX12_93 dX12_minutesOf_28 rfl ?_
    refine tj_iload_n (q := 32) dX12_minutesOf_31 rfl (i := 1) rfl (pl := 1) rfl ?_
    refine tj_iaload (q := 33) (hT).s_skill dX12_minutesOf_32 rfl ?_
    refine tj_topI (fun v4 => ?_)
    refine tj_isub (q := 34) dX12_minutesOf_33 rfl ?_
    refine tj_iconst (q := 35) (v := 2) dX12_minutesOf_34 rfl (by decide) ?_
    refine tj_iload_n (q := 36) dX12_minutesOf_35 rfl (i := 3) rfl (pl := 3) rfl ?_
    refine tj_imul (q := 37) dX12_minutesOf_36 rfl ?_
    refine tj_iadd (q := 38) dX12_minutesOf_37 rfl ?_
    exact tj_iret rfl rfl (Nat.le_of_ble_eq_true rfl) (Nat.le_of_ble_eq_true rfl) dX12_minutesOf_38
  · refine tj_iconst (q := 18) (v := 1) dX12_minutesOf_17 rfl (by decide) ?_
    refine tj_goto (q := 34) dX12_minutesOf_18 (by decide) ?_
    refine tj_iconst (q := 35) (v := 2) dX12_minutesOf_34 rfl (by decide) ?_
    refine tj_iload_n (q := 36) dX12_minutesOf_35 rfl (i := 3) rfl (pl := 3) rfl ?_
    refine tj_imul (q := 37) dX12_minutesOf_36 rfl ?_
    refine tj_iadd (q := 38) dX12_minutesOf_37 rfl ?_
    exact tj_iret rfl rfl (Nat.le_of_ble_eq_true rfl) (Nat.le_of_ble_eq_true rfl) dX12_minutesOf_38

theorem dX12_canBe_0 : decode cX12_canBe 0 = .ok (.aload_n 0, 1) := by decide +kernel
theorem dX12_canBe_1 : decode cX12_canBe 1 = .ok (.getfield 459, 3) := by decide +kernel
theorem dX12_canBe_4 : decode cX12_canBe 4 = .ok (.iload_n 1, 1) := by decide +kernel
theorem dX12_canBe_5 : decode cX12_canBe 5 = .ok (.ishr, 1) := by decide +kernel
theorem dX12_canBe_6 : decode cX12_canBe 6 = .ok (.iconst 1, 1) := by decide +kernel
theorem dX12_canBe_7 : decode cX12_canBe 7 = .ok (.iand, 1) := by decide +kernel
theorem dX12_canBe_8 : decode cX12_canBe 8 = .ok (.ifCond .ne 56, 3) := by decide +kernel
theorem dX12_canBe_11 : decode cX12_canBe 11 = .ok (.aload_n 0, 1) := by decide +kernel
theorem dX12_canBe_12 : decode cX12_canBe 12 = .ok (.aload_n 0, 1) := by decide +kernel
theorem dX12_canBe_13 : decode cX12_canBe 13 = .ok (.bipush 10, 2) := by decide +kernel
theorem dX12_canBe_15 : decode cX12_canBe 15 = .ok (.iload_n 1, 1) := by decide +kernel
theorem dX12_canBe_16 : decode cX12_canBe 16 = .ok (.iadd, 1) := by decide +kernel
theorem dX12_canBe_17 : decode cX12_canBe 17 = .ok (.invokevirtual 469, 3) := by decide +kernel
theorem dX12_canBe_20 : decode cX12_canBe 20 = .ok (.iload 4, 2) := by decide +kernel
theorem dX12_canBe_22 : decode cX12_canBe 22 = .ok (.iconst (-1), 1) := by decide +kernel
theorem dX12_canBe_23 : decode cX12_canBe 23 = .ok (.ixor, 1) := by decide +kernel
theorem dX12_canBe_24 : decode cX12_canBe 24 = .ok (.iand, 1) := by decide +kernel
theorem dX12_canBe_25 : decode cX12_canBe 25 = .ok (.iload_n 3, 1) := by decide +kernel
theorem dX12_canBe_26 : decode cX12_canBe 26 = .ok (.ior, 1) := by decide +kernel
theorem dX12_canBe_27 : decode cX12_canBe 27 = .ok (.invokevirtual 472, 3) := by decide +kernel
theorem dX12_canBe_30 : decode cX12_canBe 30 = .ok (.aload_n 0, 1) := by decide +kernel
theorem dX12_canBe_31 : decode cX12_canBe 31 = .ok (.getfield 90, 3) := by decide +kernel
theorem dX12_canBe_34 : decode cX12_canBe 34 = .ok (.iload_n 1, 1) := by decide +kernel
theorem dX12_canBe_35 : decode cX12_canBe 35 = .ok (.iaload, 1) := by decide +kernel
theorem dX12_canBe_36 : decode cX12_canBe 36 = .ok (.if_icmp .gt 28, 3) := by decide +kernel
theorem dX12_canBe_39 : decode cX12_canBe 39 = .ok (.aload_n 0, 1) := by decide +kernel
theorem dX12_canBe_40 : decode cX12_canBe 40 = .ok (.iload_n 1, 1) := by decide +kernel
theorem dX12_canBe_41 : decode cX12_canBe 41 = .ok (.iload_n 2, 1) := by decide +kernel
theorem dX12_canBe_42 : decode cX12_canBe 42 = .ok (.iload_n 3, 1) := by decide +kernel
theorem dX12_canBe_43 : decode cX12_canBe 43 = .ok (.invokestatic 475, 3) := by decide +kernel
theorem dX12_canBe_46 : decode cX12_canBe 46 = .ok (.iload 4, 2) := by decide +kernel
theorem dX12_canBe_48 : decode cX12_canBe 48 = .ok (.invokestatic 475, 3) := by decide +kernel
theorem dX12_canBe_51 : decode cX12_canBe 51 = .ok (.iadd, 1) := by decide +kernel
theorem dX12_canBe_52 : decode cX12_canBe 52 = .ok (.invokevirtual 478, 3) := by decide +kernel
theorem dX12_canBe_55 : decode cX12_canBe 55 = .ok (.bipush 15, 2) := by decide +kernel
theorem dX12_canBe_57 : decode cX12_canBe 57 = .ok (.if_icmp .gt 7, 3) := by decide +kernel
theorem dX12_canBe_60 : decode cX12_canBe 60 = .ok (.iconst 1, 1) := by decide +kernel
theorem dX12_canBe_61 : decode cX12_canBe 61 = .ok (.goto 4, 3) := by decide +kernel
theorem dX12_canBe_64 : decode cX12_canBe 64 = .ok (.iconst 0, 1) := by decide +kernel
theorem dX12_canBe_65 : decode cX12_canBe 65 = .ok (.ireturn, 1) := by decide +kernel
theorem wm_X12_hasAt : Cond.instanceMethod yX12_hasAt ∈ TB ∧ Cond.selects yX12_hasAt.cls yX12_hasAt yX12_hasAt ∈ TB ∧ Cond.initialized yX12_hasAt.cls ∈ TB ∧ Cond.code yX12_hasAt cX12_hasAt 4 (some .int) ∈ TB ∧ (yX12_hasAt.cls ≠ "java/lang/invoke/MethodHandle" ∧ yX12_hasAt.cls ≠ "java/lang/invoke/VarHandle" ∧ (parseMethodDescriptor yX12_hasAt.desc).map (fun d => d.parameters.length) = some 1) ∧ 4 ≤ 21 := ⟨tbm 1918 (by decide +kernel) (by decide +kernel), tbm 94 (by decide +kernel) (by decide +kernel), tbm 146 (by decide +kernel) (by decide +kernel), tbm 1919 (by decide +kernel) (by decide +kernel), by decide +kernel, by decide⟩
theorem wi_RX12_469 : Iv RX12 469 yX12_hasAt cX12_hasAt 4 (some .int) 1 := ⟨tbm 1916 (by decide +kernel) (by decide +kernel), wm_X12_hasAt⟩
theorem wm_X12_weightOf : Cond.instanceMethod yX12_weightOf ∈ TB ∧ Cond.selects yX12_weightOf.cls yX12_weightOf yX12_weightOf ∈ TB ∧ Cond.initialized yX12_weightOf.cls ∈ TB ∧ Cond.code yX12_weightOf cX12_weightOf 4 (some .int) ∈ TB ∧ (yX12_weightOf.cls ≠ "java/lang/invoke/MethodHandle" ∧ yX12_weightOf.cls ≠ "java/lang/invoke/VarHandle" ∧ (parseMethodDescriptor yX12_weightOf.desc).map (fun d => d.parameters.length) = some 1) ∧ 4 ≤ 21 := ⟨tbm 1934 (by decide +kernel) (by decide +kernel), tbm 96 (by decide +kernel) (by decide +kernel), tbm 146 (by decide +kernel) (by decide +kernel), tbm 1935 (by decide +kernel) (by decide +kernel), by decide +kernel, by decide⟩
theorem wi_RX12_472 : Iv RX12 472 yX12_weightOf cX12_weightOf 4 (some .int) 1 := ⟨tbm 1932 (by decide +kernel) (by decide +kernel), wm_X12_weightOf⟩
theorem wm_X12_members : Cond.static yX12_members ∈ TB ∧ Cond.initialized yX12_members.cls ∈ TB ∧ Cond.code yX12_members cX12_members 3 (some .int) ∈ TB ∧ (yX12_members.cls ≠ "java/lang/invoke/MethodHandle" ∧ yX12_members.cls ≠ "java/lang/invoke/VarHandle" ∧ (parseMethodDescriptor yX12_members.desc).map (fun d => d.parameters.length) = some 1) ∧ 3 ≤ 21 := ⟨tbm 1953 (by decide +kernel) (by decide +kernel), tbm 146 (by decide +kernel) (by decide +kernel), tbm 1954 (by decide +kernel) (by decide +kernel), by decide +kernel, by decide⟩
theorem wi_RX12_475 : Is RX12 475 yX12_members cX12_members 3 (some .int) 1 := ⟨tbm 1952 (by decide +kernel) (by decide +kernel), wm_X12_members⟩
theorem wm_X12_minutesOf : Cond.instanceMethod yX12_minutesOf ∈ TB ∧ Cond.selects yX12_minutesOf.cls yX12_minutesOf yX12_minutesOf ∈ TB ∧ Cond.initialized yX12_minutesOf.cls ∈ TB ∧ Cond.code yX12_minutesOf cX12_minutesOf 4 (some .int) ∈ TB ∧ (yX12_minutesOf.cls ≠ "java/lang/invoke/MethodHandle" ∧ yX12_minutesOf.cls ≠ "java/lang/invoke/VarHandle" ∧ (parseMethodDescriptor yX12_minutesOf.desc).map (fun d => d.parameters.length) = some 3) ∧ 4 ≤ 21 := ⟨tbm 1942 (by decide +kernel) (by decide +kernel), tbm 97 (by decide +kernel) (by decide +kernel), tbm 146 (by decide +kernel) (by decide +kernel), tbm 1943 (by decide +kernel) (by decide +kernel), by decide +kernel, by decide⟩
theorem wi_RX12_478 : Iv RX12 478 yX12_minutesOf cX12_minutesOf 4 (some .int) 3 := ⟨tbm 1940 (by decide +kernel) (by decide +kernel), wm_X12_minutesOf⟩
def mX12_canBe (t : Nat) (p1 : Int32) (p2 : Int32) (p3 : Int32) (p4 : Int32) (σ : St_) : Option Bool :=
 (if (((σ.1 t 63) >>> (p1 &&& 31)) &&& (1 : Int32)) = 0 then
 ((mX12_hasAt t ((10 : Int32) + p1) σ).bind fun r1 =>
 ((mX12_weightOf t ((r1 &&& (p4 ^^^ (-1 : Int32))) ||| p3) σ).bind fun r2 =>
 (if bin p1 4 = true then bnd (σ.1 (t + 26) p1.toNatClampNeg) fun v3 =>
 (if v3 < r2 then
 (some false)
 else ((mX12_members p3 σ).bind fun r4 =>
 ((mX12_members p4 σ).bind fun r5 =>
 ((mX12_minutesOf t p1 p2 (r4 + r5) σ).bind fun r6 =>
 (if (15 : Int32) < r6 then
 (some false)
 else (some true))))))
 else none)))
 else (some false))
set_option maxHeartbeats 4000000 in
theorem rX12_canBe (t : Nat) (p1 : Int32) (p2 : Int32) (p3 : Int32) (p4 : Int32) (hT : LY12 sh P t) : Rj l D cA h0 ad yX12_canBe cX12_canBe 5 (some .boolean) false 3 0 0 (fun b => (some (.int (b2i b)), sh, P, σ)) [.ref (h0 + t), .int p1, .int p2, .int p3, .int p4] sh P σ (mX12_canBe t p1 p2 p3 p4 σ) := by
  rw [mX12_canBe]
  refine Rj.of (by decide) (fun h => by cases h) (Nat.le_of_ble_eq_true rfl) ?_
  refine tj_lv0 (lv' := [(0, .ref (h0 + t)), (1, .int p1), (2, .int p2), (3, .int p3), (4, .int p4)]) rfl ?_
  refine tj_aload_n (q := 1) dX12_canBe_0 rfl (i := 0) rfl (pl := 0) rfl ?_
  refine tj_getI (q := 4) (hT).s fok_12_63 wl_RX12_459 dX12_canBe_1 rfl ?_
  refine tj_iload_n (q := 5) dX12_canBe_4 rfl (i := 1) rfl (pl := 1) rfl ?_
  refine tj_ishr (q := 6) dX12_canBe_5 rfl ?_
  refine tj_iconst (q := 7) (v := 1) dX12_canBe_6 rfl (by decide) ?_
  refine tj_iand (q := 8) dX12_canBe_7 rfl ?_
  refine tj_if_ne (tgt := 64) (q := 11) dX12_canBe_8 (by decide) rfl ?_ ?_
  · refine tj_aload_n (q := 12) dX12_canBe_11 rfl (i := 0) rfl (pl := 0) rfl ?_
    refine tj_aload_n (q := 13) dX12_canBe_12 rfl (i := 0) rfl (pl := 0) rfl ?_
    refine tj_bipush (q := 15) (v := 10) dX12_canBe_13 rfl (by decide) ?_
    refine tj_iload_n (q := 16) dX12_canBe_15 rfl (i := 1) rfl (pl := 1) rfl ?_
    refine tj_iadd (q := 17) dX12_canBe_16 rfl ?_
    refine tj_callIp (q := 20) (kj_V (As := [.int ((10 : Int32) + p1)]) (rest := [.ref (h0 + t)]) (t := t) wi_RX12_469 (hT).s rfl (rX12_hasAt t ((10 : Int32) + p1) (hT)) rfl (Nat.le_of_ble_eq_true rfl) ⟨Nat.le_of_ble_eq_true rfl, Nat.le_of_ble_eq_true rfl⟩ (Nat.le_of_ble_eq_true rfl) dX12_canBe_17) rfl (fun r1 => ?_)
    refine tj_iload (q := 22) dX12_canBe_20 rfl (pl := 4) rfl ?_
    refine tj_iconst (q := 23) (v := (-1)) dX12_canBe_22 rfl (by decide) ?_
    refine tj_ixor (q := 24) dX12_canBe_23 rfl ?_
    refine tj_iand (q := 25) dX12_canBe_24 rfl ?_
    refine tj_iload_n (q := 26) dX12_canBe_25 rfl (i := 3) rfl (pl := 3) rfl ?_
    refine tj_ior (q := 27) dX12_canBe_26 rfl ?_
    refine tj_callIp (q := 30) (kj_V (As := [.int ((r1 &&& (p4 ^^^ (-1 : Int32))) ||| p3)]) (rest := []) (t := t) wi_RX12_472 (hT).s rfl (rX12_weightOf t ((r1 &&& (p4 ^^^ (-1 : Int32))) ||| p3) (hT)) rfl (Nat.le_of_ble_eq_true rfl) ⟨Nat.le_of_ble_eq_true rfl, Nat.le_of_ble_eq_true rfl⟩ (Nat.le_of_ble_eq_true rfl) dX12_canBe_27) rfl (fun r2 => ?_)
    refine tj_aload_n (q := 31) dX12_canBe_30 rfl (i := 0) rfl (pl := 0) rfl ?_
    refine tj_getR (q := 34) (hT).s (hT).p_sack fok_12_42 wl_RX12_90 dX12_canBe_31 rfl ?_
    refine tj_iload_n (q := 35) dX12_canBe_34 rfl (i := 1) rfl (pl := 1) rfl ?_
    refine tj_iaload (q := 36) (hT).s_sack dX12_canBe_35 rfl ?_
    refine tj_topI (fun v3 => ?_)
    refine tj_icmp_gt (tgt := 64) (q := 39) dX12_canBe_36 (by decide) rfl ?_ ?_
    · refine tj_iconst (q := 65) (v := 0) dX12_canBe_64 rfl (by decide) ?_
      exact tj_zret rfl (by decide) rfl (Nat.le_of_ble_eq_true rfl) (Nat.le_of_ble_eq_true rfl) dX12_canBe_65
    · refine tj_aload_n (q := 40) dX12_canBe_39 rfl (i := 0) rfl (pl := 0) rfl ?_
      refine tj_iload_n (q := 41) dX12_canBe_40 rfl (i := 1) rfl (pl := 1) rfl ?_
      refine tj_iload_n (q := 42) dX12_canBe_41 rfl (i := 2) rfl (pl := 2) rfl ?_
      refine tj_iload_n (q := 43) dX12_canBe_42 rfl (i := 3) rfl (pl := 3) rfl ?_
      refine tj_callIp (q := 46) (kj_S (As := [.int p3]) (rest := [.int p2, .int p1, .ref (h0 + t)]) wi_RX12_475 (rX12_members p3) rfl (Nat.le_of_ble_eq_true rfl) ⟨Nat.le_of_ble_eq_true rfl, Nat.le_of_ble_eq_true rfl⟩ (Nat.le_of_ble_eq_true rfl) dX12_canBe_43) rfl (fun r4 => ?_)
      refine tj_iload (q := 48) dX12_canBe_46 rfl (pl := 4) rfl ?_
      refine tj_callIp (q := 51) (kj_S (As := [.int p4]) (rest := [.int r4, .int p2, .int p1, .ref (h0 + t)]) wi_RX12_475 (rX12_members p4) rfl (Nat.le_of_ble_eq_true rfl) ⟨Nat.le_of_ble_eq_true rfl, Nat.le_of_ble_eq_true rfl⟩ (Nat.le_of_ble_eq_true rfl) dX12_canBe_48) rfl (fun r5 => ?_)
      refine tj_iadd (q := 52) dX12_canBe_51 rfl ?_
      refine tj_callIp (q := 55) (kj_V (As := [.int p1, .int p2, .int (r4 + r5)]) (rest := []) (t := t) wi_RX12_478 (hT).s rfl (rX12_minutesOf t p1 p2 (r4 + r5) (hT)) rfl (Nat.le_of_ble_eq_true rfl) ⟨Nat.le_of_ble_eq_true rfl, Nat.le_of_ble_eq_true rfl⟩ (Nat.le_of_ble_eq_true rfl) dX12_canBe_52) rfl (fun r6 => ?_)
      refine tj_bipush (q := 57) (v := 15) dX12_canBe_55 rfl (by decide) ?_
      refine tj_icmp_gt (tgt := 64) (q := 60) dX12_canBe_57 (by decide) rfl ?_ ?_
      · refine tj_iconst (q := 65) (v := 0) dX12_canBe_64 rfl (by decide) ?_
        exact tj_zret rfl (by decide) rfl (Nat.le_of_ble_eq_true rfl) (Nat.le_of_ble_eq_true rfl) dX12_canBe_65
      · refine tj_iconst (q := 61) (v := 1) dX12_canBe_60 rfl (by decide) ?_
        refine tj_goto (q := 65) dX12_canBe_61 (by decide) ?_
        exact tj_zret rfl (by decide) rfl (Nat.le_of_ble_eq_true rfl) (Nat.le_of_ble_eq_true rfl) dX12_canBe_65
  · refine tj_iconst (q := 65) (v := 0) dX12_canBe_64 rfl (by decide) ?_
    exact tj_zret rfl (by decide) rfl (Nat.le_of_ble_eq_true rfl) (Nat.le_of_ble_eq_true rfl) dX12_canBe_65

theorem dX12_isSeen_0 : decode cX12_isSeen 0 = .ok (.aload_n 0, 1) := by decide +kernel
theorem dX12_isSeen_1 : decode cX12_isSeen 1 = .ok (.getfield 87, 3) := by decide +kernel
theorem dX12_isSeen_4 : decode cX12_isSeen 4 = .ok (.iload_n 1, 1) := by decide +kernel
theorem dX12_isSeen_5 : decode cX12_isSeen 5 = .ok (.iaload, 1) := by decide +kernel
theorem dX12_isSeen_6 : decode cX12_isSeen 6 = .ok (.aload_n 0, 1) := by decide +kernel
theorem dX12_isSeen_7 : decode cX12_isSeen 7 = .ok (.getfield 456, 3) := by decide +kernel
theorem dX12_isSeen_10 : decode cX12_isSeen 10 = .ok (.ishr, 1) := by decide +kernel
theorem dX12_isSeen_11 : decode cX12_isSeen 11 = .ok (.iconst 1, 1) := by decide +kernel
theorem dX12_isSeen_12 : decode cX12_isSeen 12 = .ok (.iand, 1) := by decide +kernel
theorem dX12_isSeen_13 : decode cX12_isSeen 13 = .ok (.iconst 1, 1) := by decide +kernel
theorem dX12_isSeen_14 : decode cX12_isSeen 14 = .ok (.if_icmp .ne 7, 3) := by decide +kernel
theorem dX12_isSeen_17 : decode cX12_isSeen 17 = .ok (.iconst 1, 1) := by decide +kernel
theorem dX12_isSeen_18 : decode cX12_isSeen 18 = .ok (.goto 4, 3) := by decide +kernel
theorem dX12_isSeen_21 : decode cX12_isSeen 21 = .ok (.iconst 0, 1) := by decide +kernel
theorem dX12_isSeen_22 : decode cX12_isSeen 22 = .ok (.ireturn, 1) := by decide +kernel
def mX12_isSeen (t : Nat) (p1 : Int32) (σ : St_) : Option Bool :=
 (if bin p1 5 = true then bnd (σ.1 (t + 25) p1.toNatClampNeg) fun v1 =>
 (if ((v1 >>> ((σ.1 t 62) &&& 31)) &&& (1 : Int32)) = (1 : Int32) then
 (some true)
 else (some false))
 else none)
set_option maxHeartbeats 4000000 in
theorem rX12_isSeen (t : Nat) (p1 : Int32) (hT : LY12 sh P t) : Rj l D cA h0 ad yX12_isSeen cX12_isSeen 2 (some .boolean) false 2 0 0 (fun b => (some (.int (b2i b)), sh, P, σ)) [.ref (h0 + t), .int p1] sh P σ (mX12_isSeen t p1 σ) := by
  rw [mX12_isSeen]
  refine Rj.of (by decide) (fun h => by cases h) (Nat.le_of_ble_eq_true rfl) ?_
  refine tj_lv0 (lv' := [(0, .ref (h0 + t)), (1, .int p1)]) rfl ?_
  refine tj_aload_n (q := 1) dX12_isSeen_0 rfl (i := 0) rfl (pl := 0) rfl ?_
  refine tj_getR (q := 4) (hT).s (hT).p_watch fok_12_41 wl_RX12_87 dX12_isSeen_1 rfl ?_
  refine tj_iload_n (q := 5) dX12_isSeen_4 rfl (i := 1) rfl (pl := 1) rfl ?_
  refine tj_iaload (q := 6) (hT).s_watch dX12_isSeen_5 rfl ?_
  refine tj_topI (fun v1 => ?_)
  refine tj_aload_n (q := 7) dX12_isSeen_6 rfl (i := 0) rfl (pl := 0) rfl ?_
  refine tj_getI (q := 10) (hT).s fok_12_62 wl_RX12_456 dX12_isSeen_7 rfl ?_
  refine tj_ishr (q := 11) dX12_isSeen_10 rfl ?_
  refine tj_iconst (q := 12) (v := 1) dX12_isSeen_11 rfl (by decide) ?_
  refine tj_iand (q := 13) dX12_isSeen_12 rfl ?_
  refine tj_iconst (q := 14) (v := 1) dX12_isSeen_13 rfl (by decide) ?_
  refine tj_icmp_ne (tgt := 21) (q := 17) dX12_isSeen_14 (by decide) rfl ?_ ?_
  · refine tj_iconst (q := 18) (v := 1) dX12_isSeen_17 rfl (by decide) ?_
    refine tj_goto (q := 22) dX12_isSeen_18 (by decide) ?_
    exact tj_zret rfl (by decide) rfl (Nat.le_of_ble_eq_true rfl) (Nat.le_of_ble_eq_true rfl) dX12_isSeen_22
  · refine tj_iconst (q := 22) (v := 0) dX12_isSeen_21 rfl (by decide) ?_
    exact tj_zret rfl (by decide) rfl (Nat.le_of_ble_eq_true rfl) (Nat.le_of_ble_eq_true rfl) dX12_isSeen_22

theorem dX12_alike_0 : decode cX12_alike 0 = .ok (.iconst 0, 1) := by decide +kernel
theorem dX12_alike_1 : decode cX12_alike 1 = .ok (.istore_n 3, 1) := by decide +kernel
theorem dX12_alike_2 : decode cX12_alike 2 = .ok (.iconst 0, 1) := by decide +kernel
theorem dX12_alike_3 : decode cX12_alike 3 = .ok (.istore 4, 2) := by decide +kernel
theorem dX12_alike_5 : decode cX12_alike 5 = .ok (.iload 4, 2) := by decide +kernel
theorem dX12_alike_7 : decode cX12_alike 7 = .ok (.aload_n 0, 1) := by decide +kernel
theorem dX12_alike_8 : decode cX12_alike 8 = .ok (.getfield 419, 3) := by decide +kernel
theorem dX12_alike_11 : decode cX12_alike 11 = .ok (.if_icmp .ge 89, 3) := by decide +kernel
theorem dX12_alike_14 : decode cX12_alike 14 = .ok (.iload_n 2, 1) := by decide +kernel
theorem dX12_alike_15 : decode cX12_alike 15 = .ok (.iload 4, 2) := by decide +kernel
theorem dX12_alike_17 : decode cX12_alike 17 = .ok (.ishr, 1) := by decide +kernel
theorem dX12_alike_18 : decode cX12_alike 18 = .ok (.iconst 1, 1) := by decide +kernel
theorem dX12_alike_19 : decode cX12_alike 19 = .ok (.iand, 1) := by decide +kernel
theorem dX12_alike_20 : decode cX12_alike 20 = .ok (.ifCond .ne 6, 3) := by decide +kernel
theorem dX12_alike_23 : decode cX12_alike 23 = .ok (.goto 71, 3) := by decide +kernel
theorem dX12_alike_26 : decode cX12_alike 26 = .ok (.iconst 0, 1) := by decide +kernel
theorem dX12_alike_27 : decode cX12_alike 27 = .ok (.istore 5, 2) := by decide +kernel
theorem dX12_alike_29 : decode cX12_alike 29 = .ok (.iconst 0, 1) := by decide +kernel
theorem dX12_alike_30 : decode cX12_alike 30 = .ok (.istore 6, 2) := by decide +kernel
theorem dX12_alike_32 : decode cX12_alike 32 = .ok (.iload 6, 2) := by decide +kernel
theorem dX12_alike_34 : decode cX12_alike 34 = .ok (.aload_n 0, 1) := by decide +kernel
theorem dX12_alike_35 : decode cX12_alike 35 = .ok (.getfield 419, 3) := by decide +kernel
theorem dX12_alike_38 : decode cX12_alike 38 = .ok (.if_icmp .ge 48, 3) := by decide +kernel
theorem dX12_alike_41 : decode cX12_alike 41 = .ok (.iload 5, 2) := by decide +kernel
theorem dX12_alike_43 : decode cX12_alike 43 = .ok (.ifCond .ne 30, 3) := by decide +kernel
theorem dX12_alike_46 : decode cX12_alike 46 = .ok (.iload_n 1, 1) := by decide +kernel
theorem dX12_alike_47 : decode cX12_alike 47 = .ok (.iload 6, 2) := by decide +kernel
theorem dX12_alike_49 : decode cX12_alike 49 = .ok (.ishr, 1) := by decide +kernel
theorem dX12_alike_50 : decode cX12_alike 50 = .ok (.iconst 1, 1) := by decide +kernel
theorem dX12_alike_51 : decode cX12_alike 51 = .ok (.iand, 1) := by decide +kernel
theorem dX12_alike_52 : decode cX12_alike 52 = .ok (.iconst 1, 1) := by decide +kernel
theorem dX12_alike_53 : decode cX12_alike 53 = .ok (.if_icmp .ne 24, 3) := by decide +kernel
theorem dX12_alike_56 : decode cX12_alike 56 = .ok (.aload_n 0, 1) := by decide +kernel
theorem dX12_alike_57 : decode cX12_alike 57 = .ok (.getfield 72, 3) := by decide +kernel
theorem dX12_alike_60 : decode cX12_alike 60 = .ok (.iload 6, 2) := by decide +kernel
theorem dX12_alike_62 : decode cX12_alike 62 = .ok (.iaload, 1) := by decide +kernel
theorem dX12_alike_63 : decode cX12_alike 63 = .ok (.aload_n 0, 1) := by decide +kernel
theorem dX12_alike_64 : decode cX12_alike 64 = .ok (.getfield 72, 3) := by decide +kernel
theorem dX12_alike_67 : decode cX12_alike 67 = .ok (.iload 4, 2) := by decide +kernel
theorem dX12_alike_69 : decode cX12_alike 69 = .ok (.iaload, 1) := by decide +kernel
theorem dX12_alike_70 : decode cX12_alike 70 = .ok (.if_icmp .ne 7, 3) := by decide +kernel
theorem dX12_alike_73 : decode cX12_alike 73 = .ok (.iconst 1, 1) := by decide +kernel
theorem dX12_alike_74 : decode cX12_alike 74 = .ok (.goto 4, 3) := by decide +kernel
theorem dX12_alike_77 : decode cX12_alike 77 = .ok (.iconst 0, 1) := by decide +kernel
theorem dX12_alike_78 : decode cX12_alike 78 = .ok (.istore 5, 2) := by decide +kernel
theorem dX12_alike_80 : decode cX12_alike 80 = .ok (.iinc 6 1, 3) := by decide +kernel
theorem dX12_alike_83 : decode cX12_alike 83 = .ok (.goto (-51), 3) := by decide +kernel
theorem dX12_alike_86 : decode cX12_alike 86 = .ok (.iload_n 3, 1) := by decide +kernel
theorem dX12_alike_87 : decode cX12_alike 87 = .ok (.iload 5, 2) := by decide +kernel
theorem dX12_alike_89 : decode cX12_alike 89 = .ok (.invokestatic 337, 3) := by decide +kernel
theorem dX12_alike_92 : decode cX12_alike 92 = .ok (.iadd, 1) := by decide +kernel
theorem dX12_alike_93 : decode cX12_alike 93 = .ok (.istore_n 3, 1) := by decide +kernel
theorem dX12_alike_94 : decode cX12_alike 94 = .ok (.iinc 4 1, 3) := by decide +kernel
theorem dX12_alike_97 : decode cX12_alike 97 = .ok (.goto (-92), 3) := by decide +kernel
theorem dX12_alike_100 : decode cX12_alike 100 = .ok (.iload_n 3, 1) := by decide +kernel
theorem dX12_alike_101 : decode cX12_alike 101 = .ok (.ireturn, 1) := by decide +kernel
def mX12_alike_L32 (t : Nat) (σ : St_) (x1 : Int32) (x2 : Int32) (x3 : Int32) (x4 : Int32) (k86 : Bool → Option Int32) : Nat → Bool → Int32 → Option Int32
  | 0, _, _ => none
  | n + 1, x5, x6 => (if (σ.1 t 52) ≤ x6 then
 (k86 x5)
 else (bnd (fun (j4 : Bool) => (mX12_alike_L32 t σ x1 x2 x3 x4 k86 n j4 (x6 + 1))) fun k5 =>
 (bnd (k5 true) fun k7 =>
 (if x5 = true then
 (k7)
 else (bnd (k5 false) fun k9 =>
 (if ((x1 >>> (x6 &&& 31)) &&& (1 : Int32)) = (1 : Int32) then
 (if bin x6 10 = true then bnd (σ.1 (t + 20) x6.toNatClampNeg) fun v11 =>
 (if bin x4 10 = true then bnd (σ.1 (t + 20) x4.toNatClampNeg) fun v12 =>
 (if v11 = v12 then
 (k7)
 else (k9))
 else none)
 else none)
 else (k9)))))))
def mX12_alike_L5 (t : Nat) (σ : St_) (x1 : Int32) (x2 : Int32) : Nat → Int32 → Int32 → Option Int32
  | 0, _, _ => none
  | n + 1, x3, x4 => (if (σ.1 t 52) ≤ x4 then
 (some x3)
 else (bnd (fun (j1 : Int32) => (mX12_alike_L5 t σ x1 x2 n j1 (x4 + 1))) fun k2 =>
 (if ((x2 >>> (x4 &&& 31)) &&& (1 : Int32)) = 0 then
 (k2 x3)
 else (mX12_alike_L32 t σ x1 x2 x3 x4
 (fun (y13 : Bool) => ((mX12_truth y13 σ).bind fun r14 =>
 (bnd (x3 + r14) fun v15 =>
 (k2 v15)))) FU false (0 : Int32)))))
def mX12_alike (t : Nat) (p1 : Int32) (p2 : Int32) (σ : St_) : Option Int32 :=
 (mX12_alike_L5 t σ p1 p2 FU (0 : Int32) (0 : Int32))
set_option maxHeartbeats 4000000 in
theorem tmX12_alike_L32 (σ : St_) (t : Nat) (hT : LY12 sh P t) (x1 : Int32) (x2 : Int32) (x3 : Int32) (x4 : Int32) (k86 : Bool → Option Int32) (hk86 : ∀ (y5 : Bool), Tj l D cA h0 ad RX12 cX12_alike 7 (some .int) false 3 0 0 (fun b => (some (.int b), sh, P, σ)) 0 0 sh P σ 86 [(0, .ref (h0 + t)), (1, .int x1), (2, .int x2), (3, .int x3), (4, .int x4), (5, .int (b2i y5))] [] (k86 y5)) : ∀ (n : Nat) (x5 : Bool) (x6 : Int32), Tj l D cA h0 ad RX12 cX12_alike 7 (some .int) false 3 0 0 (fun b => (some (.int b), sh, P, σ)) 0 0 sh P σ 32 [(0, .ref (h0 + t)), (1, .int x1), (2, .int x2), (3, .int x3), (4, .int x4), (5, .int (b2i x5)), (6, .int x6)] [] (mX12_alike_L32 t σ x1 x2 x3 x4 k86 n x5 x6) := by
  intro n
  induction n with
  | zero => intros; exact tj_none
  | succ n ih =>
    intro x5 x6
    rw [mX12_alike_L32]
    refine tj_iload (q := 34) dX12_alike_32 rfl (pl := 6) rfl ?_
    refine tj_aload_n (q := 35) dX12_alike_34 rfl (i := 0) rfl (pl := 0) rfl ?_
    refine tj_getI (q := 38) (hT).s fok_12_52 wl_RX12_419 dX12_alike_35 rfl ?_
    refine tj_icmp_ge (tgt := 86) (q := 41) dX12_alike_38 (by decide) rfl ?_ ?_
    · refine tj_lv [0, 1, 2, 3, 4, 5] rfl ?_
      exact hk86 x5
    · refine tj_iload (q := 43) dX12_alike_41 rfl (pl := 5) rfl ?_
      refine tj_bnd (fun k5 => ∀ (j4 : Bool), Tj l D cA h0 ad RX12 cX12_alike 7 (some .int) false 3 0 0 (fun b => (some (.int b), sh, P, σ)) 0 0 sh P σ 78 [(0, .ref (h0 + t)), (1, .int x1), (2, .int x2), (3, .int x3), (4, .int x4), (6, .int x6)] [.int (b2i j4)] (k5 j4)) ?_ (fun k5 hk6 => ?_)
      · intro j4
        refine tj_istore (q := 80) dX12_alike_78 rfl (by decide) rfl ?_
        refine tj_iinc (q := 83) (v := x6 + 1) dX12_alike_80 rfl (pl := 6) rfl rfl (by decide) rfl ?_
        refine tj_goto (q := 32) dX12_alike_83 (by decide) ?_
        refine tj_lv [2, 3, 4, 5, 6, 1, 0] rfl ?_
        exact ih j4 (x6 + 1)
      · refine tj_bnd (fun k7 => Tj l D cA h0 ad RX12 cX12_alike 7 (some .int) false 3 0 0 (fun b => (some (.int b), sh, P, σ)) 0 0 sh P σ 73 [(0, .ref (h0 + t)), (1, .int x1), (2, .int x2), (3, .int x3), (4, .int x4), (6, .int x6)] [] k7) ?_ (fun k7 hk8 => ?_)
        · refine tj_iconst (q := 74) (v := 1) dX12_alike_73 rfl (by decide) ?_
          refine tj_goto (q := 78) dX12_alike_74 (by decide) ?_
          exact hk6 true
        · refine tj_bnz (tgt := 73) (q := 46) dX12_alike_43 (by decide) rfl ?_ ?_
          · refine tj_lv [0, 1, 2, 3, 4, 6] rfl ?_
            exact hk8
          · refine tj_iload_n (q := 47) dX12_alike_46 rfl (i := 1) rfl (pl := 1) rfl ?_
            refine tj_iload (q := 49) dX12_alike_47 rfl (pl := 6) rfl ?_
            refine tj_ishr (q := 50) dX12_alike_49 rfl ?_
            refine tj_iconst (q := 51) (v := 1) dX12_alike_50 rfl (by decide) ?_
            refine tj_iand (q := 52) dX12_alike_51 rfl ?_
            refine tj_iconst (q := 53) (v := 1) dX12_alike_52 rfl (by decide) ?_
            refine tj_bnd (fun k9 => Tj l D cA h0 ad RX12 cX12_alike 7 (some .int) false 3 0 0 (fun b => (some (.int b), sh, P, σ)) 0 0 sh P σ 77 [(0, .ref (h0 + t)), (1, .int x1), (2, .int x2), (3, .int x3), (4, .int x4), (6, .int x6)] [] k9) ?_ (fun k9 hk10 => ?_)
            · refine tj_iconst (q := 78) (v := 0) dX12_alike_77 rfl (by decide) ?_
              exact hk6 false
            · refine tj_icmp_ne (tgt := 77) (q := 56) dX12_alike_53 (by decide) rfl ?_ ?_
              · refine tj_aload_n (q := 57) dX12_alike_56 rfl (i := 0) rfl (pl := 0) rfl ?_
                refine tj_getR (q := 60) (hT).s (hT).p_kindOf fok_12_36 wl_RX12_72 dX12_alike_57 rfl ?_
                refine tj_iload (q := 62) dX12_alike_60 rfl (pl := 6) rfl ?_
                refine tj_iaload (q := 63) (hT).s_kindOf dX12_alike_62 rfl ?_
                refine tj_topI (fun v11 => ?_)
                refine tj_aload_n (q := 64) dX12_alike_63 rfl (i := 0) rfl (pl := 0) rfl ?_
                refine tj_getR (q := 67) (hT).s (hT).p_kindOf fok_12_36 wl_RX12_72 dX12_alike_64 rfl ?_
                refine tj_iload (q := 69) dX12_alike_67 rfl (pl := 4) rfl ?_
                refine tj_iaload (q := 70) (hT).s_kindOf dX12_alike_69 rfl ?_
                refine tj_topI (fun v12 => ?_)
                refine tj_icmp_ne (tgt := 77) (q := 73) dX12_alike_70 (by decide) rfl ?_ ?_
                · refine tj_lv [0, 1, 2, 3, 4, 6] rfl ?_
                  exact hk8
                · refine tj_lv [0, 1, 2, 3, 4, 6] rfl ?_
                  exact hk10
              · refine tj_lv [0, 1, 2, 3, 4, 6] rfl ?_
                exact hk10

set_option maxHeartbeats 4000000 in
theorem tmX12_alike_L5 (σ : St_) (t : Nat) (hT : LY12 sh P t) (x1 : Int32) (x2 : Int32) : ∀ (n : Nat) (x3 : Int32) (x4 : Int32), Tj l D cA h0 ad RX12 cX12_alike 7 (some .int) false 3 0 0 (fun b => (some (.int b), sh, P, σ)) 0 0 sh P σ 5 [(0, .ref (h0 + t)), (1, .int x1), (2, .int x2), (3, .int x3), (4, .int x4)] [] (mX12_alike_L5 t σ x1 x2 n x3 x4) := by
  intro n
  induction n with
  | zero => intros; exact tj_none
  | succ n ih =>
    intro x3 x4
    rw [mX12_alike_L5]
    refine tj_iload (q := 7) dX12_alike_5 rfl (pl := 4) rfl ?_
    refine tj_aload_n (q := 8) dX12_alike_7 rfl (i := 0) rfl (pl := 0) rfl ?_
    refine tj_getI (q := 11) (hT).s fok_12_52 wl_RX12_419 dX12_alike_8 rfl ?_
    refine tj_icmp_ge (tgt := 100) (q := 14) dX12_alike_11 (by decide) rfl ?_ ?_
    · refine tj_iload_n (q := 101) dX12_alike_100 rfl (i := 3) rfl (pl := 3) rfl ?_
      exact tj_iret rfl rfl (Nat.le_of_ble_eq_true rfl) (Nat.le_of_ble_eq_true rfl) dX12_alike_101
    · refine tj_iload_n (q := 15) dX12_alike_14 rfl (i := 2) rfl (pl := 2) rfl ?_
      refine tj_iload (q := 17) dX12_alike_15 rfl (pl := 4) rfl ?_
      refine tj_ishr (q := 18) dX12_alike_17 rfl ?_
      refine tj_iconst (q := 19) (v := 1) dX12_alike_18 rfl (by decide) ?_
      refine tj_iand (q := 20) dX12_alike_19 rfl ?_
      refine tj_bnd (fun k2 => ∀ (j1 : Int32), Tj l D cA h0 ad RX12 cX12_alike 7 (some .int) false 3 0 0 (fun b => (some (.int b), sh, P, σ)) 0 0 sh P σ 94 [(0, .ref (h0 + t)), (1, .int x1), (2, .int x2), (3, .int j1), (4, .int x4)] [] (k2 j1)) ?_ (fun k2 hk3 => ?_)
      · intro j1
        refine tj_iinc (q := 97) (v := x4 + 1) dX12_alike_94 rfl (pl := 4) rfl rfl (by decide) rfl ?_
        refine tj_goto (q := 5) dX12_alike_97 (by decide) ?_
        refine tj_lv [1, 2, 3, 4, 0] rfl ?_
        exact ih j1 (x4 + 1)
      · refine tj_if_ne (tgt := 26) (q := 23) dX12_alike_20 (by decide) rfl ?_ ?_
        · refine tj_goto (q := 94) dX12_alike_23 (by decide) ?_
          exact hk3 x3
        · refine tj_iconst (q := 27) (v := 0) dX12_alike_26 rfl (by decide) ?_
          refine tj_istore (q := 29) dX12_alike_27 rfl (by decide) rfl ?_
          refine tj_iconst (q := 30) (v := 0) dX12_alike_29 rfl (by decide) ?_
          refine tj_istore (q := 32) dX12_alike_30 rfl (by decide) rfl ?_
          refine tj_lv [2, 3, 4, 5, 6, 1, 0] rfl ?_
          refine tmX12_alike_L32 σ t hT x1 x2 x3 x4 _ ?_ FU false (0 : Int32)
          · intro y13
            refine tj_iload_n (q := 87) dX12_alike_86 rfl (i := 3) rfl (pl := 3) rfl ?_
            refine tj_iload (q := 89) dX12_alike_87 rfl (pl := 5) rfl ?_
            refine tj_callIp (q := 92) (kj_S (As := [.int (b2i y13)]) (rest := [.int x3]) wi_RX12_337 (rX12_truth y13) rfl (Nat.le_of_ble_eq_true rfl) ⟨Nat.le_of_ble_eq_true rfl, Nat.le_of_ble_eq_true rfl⟩ (Nat.le_of_ble_eq_true rfl) dX12_alike_89) rfl (fun r14 => ?_)
            refine tj_iadd (q := 93) dX12_alike_92 rfl ?_
            refine tj_topI (fun v15 => ?_)
            refine tj_istore_n (q := 94) dX12_alike_93 rfl (i := 3) rfl (by decide) rfl ?_
            refine tj_lv [1, 2, 3, 0, 4] rfl ?_
            exact hk3 v15

set_option maxHeartbeats 4000000 in
theorem rX12_alike (t : Nat) (p1 : Int32) (p2 : Int32) (hT : LY12 sh P t) : Rj l D cA h0 ad yX12_alike cX12_alike 7 (some .int) false 3 0 0 (fun b => (some (.int b), sh, P, σ)) [.ref (h0 + t), .int p1, .int p2] sh P σ (mX12_alike t p1 p2 σ) := by
  rw [mX12_alike]
  refine Rj.of (by decide) (fun h => by cases h) (Nat.le_of_ble_eq_true rfl) ?_
  refine tj_lv0 (lv' := [(0, .ref (h0 + t)), (1, .int p1), (2, .int p2)]) rfl ?_
  refine tj_iconst (q := 1) (v := 0) dX12_alike_0 rfl (by decide) ?_
  refine tj_istore_n (q := 2) dX12_alike_1 rfl (i := 3) rfl (by decide) rfl ?_
  refine tj_iconst (q := 3) (v := 0) dX12_alike_2 rfl (by decide) ?_
  refine tj_istore (q := 5) dX12_alike_3 rfl (by decide) rfl ?_
  refine tj_lv [2, 3, 4, 1, 0] rfl ?_
  exact tmX12_alike_L5 σ t hT p1 p2 FU (0 : Int32) (0 : Int32)

theorem dX12_isLawful_0 : decode cX12_isLawful 0 = .ok (.iconst 0, 1) := by decide +kernel
theorem dX12_isLawful_1 : decode cX12_isLawful 1 = .ok (.istore 6, 2) := by decide +kernel
theorem dX12_isLawful_3 : decode cX12_isLawful 3 = .ok (.iload 6, 2) := by decide +kernel
theorem dX12_isLawful_5 : decode cX12_isLawful 5 = .ok (.bipush 7, 2) := by decide +kernel
theorem dX12_isLawful_7 : decode cX12_isLawful 7 = .ok (.if_icmp .ge 17, 3) := by decide +kernel
theorem dX12_isLawful_10 : decode cX12_isLawful 10 = .ok (.aload_n 0, 1) := by decide +kernel
theorem dX12_isLawful_11 : decode cX12_isLawful 11 = .ok (.getfield 42, 3) := by decide +kernel
theorem dX12_isLawful_14 : decode cX12_isLawful 14 = .ok (.iload 6, 2) := by decide +kernel
theorem dX12_isLawful_16 : decode cX12_isLawful 16 = .ok (.iconst 0, 1) := by decide +kernel
theorem dX12_isLawful_17 : decode cX12_isLawful 17 = .ok (.iastore, 1) := by decide +kernel
theorem dX12_isLawful_18 : decode cX12_isLawful 18 = .ok (.iinc 6 1, 3) := by decide +kernel
theorem dX12_isLawful_21 : decode cX12_isLawful 21 = .ok (.goto (-18), 3) := by decide +kernel
theorem dX12_isLawful_24 : decode cX12_isLawful 24 = .ok (.iconst 0, 1) := by decide +kernel
theorem dX12_isLawful_25 : decode cX12_isLawful 25 = .ok (.istore 6, 2) := by decide +kernel
theorem dX12_isLawful_27 : decode cX12_isLawful 27 = .ok (.iload 6, 2) := by decide +kernel
theorem dX12_isLawful_29 : decode cX12_isLawful 29 = .ok (.aload_n 0, 1) := by decide +kernel
theorem dX12_isLawful_30 : decode cX12_isLawful 30 = .ok (.getfield 419, 3) := by decide +kernel
theorem dX12_isLawful_33 : decode cX12_isLawful 33 = .ok (.if_icmp .ge 69, 3) := by decide +kernel
theorem dX12_isLawful_36 : decode cX12_isLawful 36 = .ok (.aload_n 0, 1) := by decide +kernel
theorem dX12_isLawful_37 : decode cX12_isLawful 37 = .ok (.getfield 42, 3) := by decide +kernel
theorem dX12_isLawful_40 : decode cX12_isLawful 40 = .ok (.iconst 0, 1) := by decide +kernel
theorem dX12_isLawful_41 : decode cX12_isLawful 41 = .ok (.dup2, 1) := by decide +kernel
theorem dX12_isLawful_42 : decode cX12_isLawful 42 = .ok (.iaload, 1) := by decide +kernel
theorem dX12_isLawful_43 : decode cX12_isLawful 43 = .ok (.iload_n 2, 1) := by decide +kernel
theorem dX12_isLawful_44 : decode cX12_isLawful 44 = .ok (.iload 6, 2) := by decide +kernel
theorem dX12_isLawful_46 : decode cX12_isLawful 46 = .ok (.ishr, 1) := by decide +kernel
theorem dX12_isLawful_47 : decode cX12_isLawful 47 = .ok (.iconst 1, 1) := by decide +kernel
theorem dX12_isLawful_48 : decode cX12_isLawful 48 = .ok (.iand, 1) := by decide +kernel
theorem dX12_isLawful_49 : decode cX12_isLawful 49 = .ok (.iconst 1, 1) := by decide +kernel
theorem dX12_isLawful_50 : decode cX12_isLawful 50 = .ok (.if_icmp .ne 13, 3) := by decide +kernel
theorem dX12_isLawful_53 : decode cX12_isLawful 53 = .ok (.aload_n 0, 1) := by decide +kernel
theorem dX12_isLawful_54 : decode cX12_isLawful 54 = .ok (.iload 6, 2) := by decide +kernel
theorem dX12_isLawful_56 : decode cX12_isLawful 56 = .ok (.iload_n 1, 1) := by decide +kernel
theorem dX12_isLawful_57 : decode cX12_isLawful 57 = .ok (.invokevirtual 481, 3) := by decide +kernel
theorem dX12_isLawful_60 : decode cX12_isLawful 60 = .ok (.goto 4, 3) := by decide +kernel
theorem dX12_isLawful_63 : decode cX12_isLawful 63 = .ok (.iconst 0, 1) := by decide +kernel
theorem dX12_isLawful_64 : decode cX12_isLawful 64 = .ok (.iadd, 1) := by decide +kernel
theorem dX12_isLawful_65 : decode cX12_isLawful 65 = .ok (.iastore, 1) := by decide +kernel
theorem dX12_isLawful_66 : decode cX12_isLawful 66 = .ok (.aload_n 0, 1) := by decide +kernel
theorem dX12_isLawful_67 : decode cX12_isLawful 67 = .ok (.getfield 42, 3) := by decide +kernel
theorem dX12_isLawful_70 : decode cX12_isLawful 70 = .ok (.iconst 1, 1) := by decide +kernel
theorem dX12_isLawful_71 : decode cX12_isLawful 71 = .ok (.dup2, 1) := by decide +kernel
theorem dX12_isLawful_72 : decode cX12_isLawful 72 = .ok (.iaload, 1) := by decide +kernel
theorem dX12_isLawful_73 : decode cX12_isLawful 73 = .ok (.iload_n 3, 1) := by decide +kernel
theorem dX12_isLawful_74 : decode cX12_isLawful 74 = .ok (.iload 6, 2) := by decide +kernel
theorem dX12_isLawful_76 : decode cX12_isLawful 76 = .ok (.ishr, 1) := by decide +kernel
theorem dX12_isLawful_77 : decode cX12_isLawful 77 = .ok (.iconst 1, 1) := by decide +kernel
theorem dX12_isLawful_78 : decode cX12_isLawful 78 = .ok (.iand, 1) := by decide +kernel
theorem dX12_isLawful_79 : decode cX12_isLawful 79 = .ok (.iconst 1, 1) := by decide +kernel
theorem dX12_isLawful_80 : decode cX12_isLawful 80 = .ok (.if_icmp .ne 13, 3) := by decide +kernel
theorem dX12_isLawful_83 : decode cX12_isLawful 83 = .ok (.aload_n 0, 1) := by decide +kernel
theorem dX12_isLawful_84 : decode cX12_isLawful 84 = .ok (.iload 6, 2) := by decide +kernel
theorem dX12_isLawful_86 : decode cX12_isLawful 86 = .ok (.iload_n 1, 1) := by decide +kernel
theorem dX12_isLawful_87 : decode cX12_isLawful 87 = .ok (.invokevirtual 481, 3) := by decide +kernel
theorem dX12_isLawful_90 : decode cX12_isLawful 90 = .ok (.goto 4, 3) := by decide +kernel
theorem dX12_isLawful_93 : decode cX12_isLawful 93 = .ok (.iconst 0, 1) := by decide +kernel
theorem dX12_isLawful_94 : decode cX12_isLawful 94 = .ok (.iadd, 1) := by decide +kernel
theorem dX12_isLawful_95 : decode cX12_isLawful 95 = .ok (.iastore, 1) := by decide +kernel
theorem dX12_isLawful_96 : decode cX12_isLawful 96 = .ok (.iinc 6 1, 3) := by decide +kernel
theorem dX12_isLawful_99 : decode cX12_isLawful 99 = .ok (.goto (-72), 3) := by decide +kernel
theorem dX12_isLawful_102 : decode cX12_isLawful 102 = .ok (.aload_n 0, 1) := by decide +kernel
theorem dX12_isLawful_103 : decode cX12_isLawful 103 = .ok (.getfield 428, 3) := by decide +kernel
theorem dX12_isLawful_106 : decode cX12_isLawful 106 = .ok (.ifCond .ne 24, 3) := by decide +kernel
theorem dX12_isLawful_109 : decode cX12_isLawful 109 = .ok (.aload_n 0, 1) := by decide +kernel
theorem dX12_isLawful_110 : decode cX12_isLawful 110 = .ok (.getfield 42, 3) := by decide +kernel
theorem dX12_isLawful_113 : decode cX12_isLawful 113 = .ok (.iconst 1, 1) := by decide +kernel
theorem dX12_isLawful_114 : decode cX12_isLawful 114 = .ok (.iaload, 1) := by decide +kernel
theorem dX12_isLawful_115 : decode cX12_isLawful 115 = .ok (.aload_n 0, 1) := by decide +kernel
theorem dX12_isLawful_116 : decode cX12_isLawful 116 = .ok (.getfield 42, 3) := by decide +kernel
theorem dX12_isLawful_119 : decode cX12_isLawful 119 = .ok (.iconst 0, 1) := by decide +kernel
theorem dX12_isLawful_120 : decode cX12_isLawful 120 = .ok (.iaload, 1) := by decide +kernel
theorem dX12_isLawful_121 : decode cX12_isLawful 121 = .ok (.if_icmp .le 7, 3) := by decide +kernel
theorem dX12_isLawful_124 : decode cX12_isLawful 124 = .ok (.iconst 1, 1) := by decide +kernel
theorem dX12_isLawful_125 : decode cX12_isLawful 125 = .ok (.goto 4, 3) := by decide +kernel
theorem dX12_isLawful_128 : decode cX12_isLawful 128 = .ok (.iconst 0, 1) := by decide +kernel
theorem dX12_isLawful_129 : decode cX12_isLawful 129 = .ok (.ireturn, 1) := by decide +kernel
theorem dX12_isLawful_130 : decode cX12_isLawful 130 = .ok (.aload_n 0, 1) := by decide +kernel
theorem dX12_isLawful_131 : decode cX12_isLawful 131 = .ok (.getfield 42, 3) := by decide +kernel
theorem dX12_isLawful_134 : decode cX12_isLawful 134 = .ok (.iconst 2, 1) := by decide +kernel
theorem dX12_isLawful_135 : decode cX12_isLawful 135 = .ok (.iload_n 2, 1) := by decide +kernel
theorem dX12_isLawful_136 : decode cX12_isLawful 136 = .ok (.invokestatic 475, 3) := by decide +kernel
theorem dX12_isLawful_139 : decode cX12_isLawful 139 = .ok (.iastore, 1) := by decide +kernel
theorem dX12_isLawful_140 : decode cX12_isLawful 140 = .ok (.aload_n 0, 1) := by decide +kernel
theorem dX12_isLawful_141 : decode cX12_isLawful 141 = .ok (.getfield 42, 3) := by decide +kernel
theorem dX12_isLawful_144 : decode cX12_isLawful 144 = .ok (.iconst 3, 1) := by decide +kernel
theorem dX12_isLawful_145 : decode cX12_isLawful 145 = .ok (.iload_n 3, 1) := by decide +kernel
theorem dX12_isLawful_146 : decode cX12_isLawful 146 = .ok (.invokestatic 475, 3) := by decide +kernel
theorem dX12_isLawful_149 : decode cX12_isLawful 149 = .ok (.iastore, 1) := by decide +kernel
theorem dX12_isLawful_150 : decode cX12_isLawful 150 = .ok (.aload_n 0, 1) := by decide +kernel
theorem dX12_isLawful_151 : decode cX12_isLawful 151 = .ok (.getfield 42, 3) := by decide +kernel
theorem dX12_isLawful_154 : decode cX12_isLawful 154 = .ok (.iconst 4, 1) := by decide +kernel
theorem dX12_isLawful_155 : decode cX12_isLawful 155 = .ok (.aload_n 0, 1) := by decide +kernel
theorem dX12_isLawful_156 : decode cX12_isLawful 156 = .ok (.iload_n 2, 1) := by decide +kernel
theorem dX12_isLawful_157 : decode cX12_isLawful 157 = .ok (.iload_n 3, 1) := by decide +kernel
theorem dX12_isLawful_158 : decode cX12_isLawful 158 = .ok (.invokevirtual 484, 3) := by decide +kernel
theorem dX12_isLawful_161 : decode cX12_isLawful 161 = .ok (.iastore, 1) := by decide +kernel
theorem dX12_isLawful_162 : decode cX12_isLawful 162 = .ok (.aload_n 0, 1) := by decide +kernel
theorem dX12_isLawful_163 : decode cX12_isLawful 163 = .ok (.getfield 42, 3) := by decide +kernel
theorem dX12_isLawful_166 : decode cX12_isLawful 166 = .ok (.iconst 5, 1) := by decide +kernel
theorem dX12_isLawful_167 : decode cX12_isLawful 167 = .ok (.iload 4, 2) := by decide +kernel
theorem dX12_isLawful_169 : decode cX12_isLawful 169 = .ok (.iastore, 1) := by decide +kernel
theorem dX12_isLawful_170 : decode cX12_isLawful 170 = .ok (.aload_n 0, 1) := by decide +kernel
theorem dX12_isLawful_171 : decode cX12_isLawful 171 = .ok (.getfield 42, 3) := by decide +kernel
theorem dX12_isLawful_174 : decode cX12_isLawful 174 = .ok (.bipush 6, 2) := by decide +kernel
theorem dX12_isLawful_176 : decode cX12_isLawful 176 = .ok (.iload 5, 2) := by decide +kernel
theorem dX12_isLawful_178 : decode cX12_isLawful 178 = .ok (.iastore, 1) := by decide +kernel
theorem dX12_isLawful_179 : decode cX12_isLawful 179 = .ok (.aload_n 0, 1) := by decide +kernel
theorem dX12_isLawful_180 : decode cX12_isLawful 180 = .ok (.invokevirtual 487, 3) := by decide +kernel
theorem dX12_isLawful_183 : decode cX12_isLawful 183 = .ok (.ifCond .eq 7, 3) := by decide +kernel
theorem dX12_isLawful_186 : decode cX12_isLawful 186 = .ok (.iconst 1, 1) := by decide +kernel
theorem dX12_isLawful_187 : decode cX12_isLawful 187 = .ok (.goto 4, 3) := by decide +kernel
theorem dX12_isLawful_190 : decode cX12_isLawful 190 = .ok (.iconst 0, 1) := by decide +kernel
theorem dX12_isLawful_191 : decode cX12_isLawful 191 = .ok (.ireturn, 1) := by decide +kernel
theorem wm_X12_worthTo : Cond.instanceMethod yX12_worthTo ∈ TB ∧ Cond.selects yX12_worthTo.cls yX12_worthTo yX12_worthTo ∈ TB ∧ Cond.initialized yX12_worthTo.cls ∈ TB ∧ Cond.code yX12_worthTo cX12_worthTo 3 (some .int) ∈ TB ∧ (yX12_worthTo.cls ≠ "java/lang/invoke/MethodHandle" ∧ yX12_worthTo.cls ≠ "java/lang/invoke/VarHandle" ∧ (parseMethodDescriptor yX12_worthTo.desc).map (fun d => d.parameters.length) = some 2) ∧ 3 ≤ 21 := ⟨tbm 1969 (by decide +kernel) (by decide +kernel), tbm 102 (by decide +kernel) (by decide +kernel), tbm 146 (by decide +kernel) (by decide +kernel), tbm 1970 (by decide +kernel) (by decide +kernel), by decide +kernel, by decide⟩
theorem wi_RX12_481 : Iv RX12 481 yX12_worthTo cX12_worthTo 3 (some .int) 2 := ⟨tbm 1967 (by decide +kernel) (by decide +kernel), wm_X12_worthTo⟩
theorem wm_X12_alike : Cond.instanceMethod yX12_alike ∈ TB ∧ Cond.selects yX12_alike.cls yX12_alike yX12_alike ∈ TB ∧ Cond.initialized yX12_alike.cls ∈ TB ∧ Cond.code yX12_alike cX12_alike 7 (some .int) ∈ TB ∧ (yX12_alike.cls ≠ "java/lang/invoke/MethodHandle" ∧ yX12_alike.cls ≠ "java/lang/invoke/VarHandle" ∧ (parseMethodDescriptor yX12_alike.desc).map (fun d => d.parameters.length) = some 2) ∧ 7 ≤ 21 := ⟨tbm 1973 (by decide +kernel) (by decide +kernel), tbm 103 (by decide +kernel) (by decide +kernel), tbm 146 (by decide +kernel) (by decide +kernel), tbm 1974 (by decide +kernel) (by decide +kernel), by decide +kernel, by decide⟩
theorem wi_RX12_484 : Iv RX12 484 yX12_alike cX12_alike 7 (some .int) 2 := ⟨tbm 1971 (by decide +kernel) (by decide +kernel), wm_X12_alike⟩
theorem wm_X12_worked : Cond.instanceMethod yX12_worked ∈ TB ∧ Cond.selects yX12_worked.cls yX12_worked yX12_worked ∈ TB ∧ Cond.initialized yX12_worked.cls ∈ TB ∧ Cond.code yX12_worked cX12_worked 3 (some .int) ∈ TB ∧ (yX12_worked.cls ≠ "java/lang/invoke/MethodHandle" ∧ yX12_worked.cls ≠ "java/lang/invoke/VarHandle" ∧ (parseMethodDescriptor yX12_worked.desc).map (fun d => d.parameters.length) = some 0) ∧ 3 ≤ 21 := ⟨tbm 1980 (by decide +kernel) (by decide +kernel), tbm 104 (by decide +kernel) (by decide +kernel), tbm 146 (by decide +kernel) (by decide +kernel), tbm 1981 (by decide +kernel) (by decide +kernel), by decide +kernel, by decide⟩
theorem wi_RX12_487 : Iv RX12 487 yX12_worked cX12_worked 3 (some .int) 0 := ⟨tbm 1978 (by decide +kernel) (by decide +kernel), wm_X12_worked⟩
def mX12_isLawful_L3 (t : Nat) (x1 : Int32) (x2 : Int32) (x3 : Int32) (x4 : Int32) (x5 : Int32) (k24 : St_ → Option (Bool × St_)) : Nat → Int32 → St_ → Option (Bool × St_)
  | 0, _, _ => none
  | n + 1, x6, σ => (if (7 : Int32) ≤ x6 then
 (k24 σ)
 else (if bin x6 7 = true then bnd (sI σ (t + 10) x6.toNatClampNeg (0 : Int32)) fun σ1 =>
 (mX12_isLawful_L3 t x1 x2 x3 x4 x5 k24 n (x6 + 1) σ1)
 else none))
def mX12_isLawful_L27 (t : Nat) (x1 : Int32) (x2 : Int32) (x3 : Int32) (x4 : Int32) (x5 : Int32) (k102 : St_ → Option (Bool × St_)) : Nat → Int32 → St_ → Option (Bool × St_)
  | 0, _, _ => none
  | n + 1, x6, σ => (if (σ.1 t 52) ≤ x6 then
 (k102 σ)
 else (if bin (0 : Int32) 7 = true then bnd (σ.1 (t + 10) (0 : Int32).toNatClampNeg) fun v3 =>
 (bnd (fun (j4 : Int32) => (if bin (0 : Int32) 7 = true then bnd (sI σ (t + 10) (0 : Int32).toNatClampNeg (v3 + j4)) fun σ7 =>
 (if bin (1 : Int32) 7 = true then bnd (σ7.1 (t + 10) (1 : Int32).toNatClampNeg) fun v8 =>
 (bnd (fun (j9 : Int32) => (if bin (1 : Int32) 7 = true then bnd (sI σ7 (t + 10) (1 : Int32).toNatClampNeg (v8 + j9)) fun σ12 =>
 (mX12_isLawful_L27 t x1 x2 x3 x4 x5 k102 n (x6 + 1) σ12)
 else none)) fun k10 =>
 (if ((x3 >>> (x6 &&& 31)) &&& (1 : Int32)) = (1 : Int32) then
 ((mX12_worthTo t x6 x1 σ7).bind fun r13 =>
 (k10 r13))
 else (k10 (0 : Int32))))
 else none)
 else none)) fun k5 =>
 (if ((x2 >>> (x6 &&& 31)) &&& (1 : Int32)) = (1 : Int32) then
 ((mX12_worthTo t x6 x1 σ).bind fun r14 =>
 (k5 r14))
 else (k5 (0 : Int32))))
 else none))
def mX12_isLawful (t : Nat) (p1 : Int32) (p2 : Int32) (p3 : Int32) (p4 : Int32) (p5 : Int32) (σ : St_) : Option (Bool × St_) :=
 (mX12_isLawful_L3 t p1 p2 p3 p4 p5
 (fun (σ2 : St_) => (mX12_isLawful_L27 t p1 p2 p3 p4 p5
 (fun (σ15 : St_) => (if (σ15.1 t 59) = 0 then
 (if bin (1 : Int32) 7 = true then bnd (σ15.1 (t + 10) (1 : Int32).toNatClampNeg) fun v16 =>
 (if bin (0 : Int32) 7 = true then bnd (σ15.1 (t + 10) (0 : Int32).toNatClampNeg) fun v17 =>
 (if v16 ≤ v17 then
 (some (false, σ15))
 else (some (true, σ15)))
 else none)
 else none)
 else ((mX12_members p2 σ15).bind fun r18 =>
 (if bin (2 : Int32) 7 = true then bnd (sI σ15 (t + 10) (2 : Int32).toNatClampNeg r18) fun σ19 =>
 ((mX12_members p3 σ19).bind fun r20 =>
 (if bin (3 : Int32) 7 = true then bnd (sI σ19 (t + 10) (3 : Int32).toNatClampNeg r20) fun σ21 =>
 ((mX12_alike t p2 p3 σ21).bind fun r22 =>
 (if bin (4 : Int32) 7 = true then bnd (sI σ21 (t + 10) (4 : Int32).toNatClampNeg r22) fun σ23 =>
 (if bin (5 : Int32) 7 = true then bnd (sI σ23 (t + 10) (5 : Int32).toNatClampNeg p4) fun σ24 =>
 (if bin (6 : Int32) 7 = true then bnd (sI σ24 (t + 10) (6 : Int32).toNatClampNeg p5) fun σ25 =>
 ((mX12_worked t σ25).bind fun r26 =>
 (if r26.1 = 0 then
 (some (false, r26.2))
 else (some (true, r26.2))))
 else none)
 else none)
 else none))
 else none))
 else none)))) FU (0 : Int32) σ2)) FU (0 : Int32) σ)
set_option maxHeartbeats 4000000 in
theorem tmX12_isLawful_L3 (t : Nat) (hT : LY12 sh P t) (x1 : Int32) (x2 : Int32) (x3 : Int32) (x4 : Int32) (x5 : Int32) (k24 : St_ → Option (Bool × St_)) (hk24 : ∀ (σ1 : St_), Tj l D cA h0 ad RX12 cX12_isLawful 7 (some .boolean) false 5 0 0 (fun b => (some (.int (b2i b.1)), sh, P, b.2)) 0 0 sh P σ1 24 [(0, .ref (h0 + t)), (1, .int x1), (2, .int x2), (3, .int x3), (4, .int x4), (5, .int x5)] [] (k24 σ1)) : ∀ (n : Nat) (x6 : Int32) (σ : St_), Tj l D cA h0 ad RX12 cX12_isLawful 7 (some .boolean) false 5 0 0 (fun b => (some (.int (b2i b.1)), sh, P, b.2)) 0 0 sh P σ 3 [(0, .ref (h0 + t)), (1, .int x1), (2, .int x2), (3, .int x3), (4, .int x4), (5, .int x5), (6, .int x6)] [] (mX12_isLawful_L3 t x1 x2 x3 x4 x5 k24 n x6 σ) := by
  intro n
  induction n with
  | zero => intros; exact tj_none
  | succ n ih =>
    intro x6 σ
    rw [mX12_isLawful_L3]
    refine tj_iload (q := 5) dX12_isLawful_3 rfl (pl := 6) rfl ?_
    refine tj_bipush (q := 7) (v := 7) dX12_isLawful_5 rfl (by decide) ?_
    refine tj_icmp_ge (tgt := 24) (q := 10) dX12_isLawful_7 (by decide) rfl ?_ ?_
    · refine tj_lv [0, 1, 2, 3, 4, 5] rfl ?_
      exact hk24 σ
    · refine tj_aload_n (q := 11) dX12_isLawful_10 rfl (i := 0) rfl (pl := 0) rfl ?_
      refine tj_getR (q := 14) (hT).s (hT).p_asks fok_12_26 wl_RX12_42 dX12_isLawful_11 rfl ?_
      refine tj_iload (q := 16) dX12_isLawful_14 rfl (pl := 6) rfl ?_
      refine tj_iconst (q := 17) (v := 0) dX12_isLawful_16 rfl (by decide) ?_
      refine tj_iastore (q := 18) (hT).s_asks dX12_isLawful_17 rfl (fun σ1 => ?_)
      refine tj_iinc (q := 21) (v := x6 + 1) dX12_isLawful_18 rfl (pl := 6) rfl rfl (by decide) rfl ?_
      refine tj_goto (q := 3) dX12_isLawful_21 (by decide) ?_
      refine tj_lv [1, 2, 3, 4, 5, 6, 0] rfl ?_
      exact ih (x6 + 1) σ1

set_option maxHeartbeats 4000000 in
theorem tmX12_isLawful_L27 (t : Nat) (hT : LY12 sh P t) (x1 : Int32) (x2 : Int32) (x3 : Int32) (x4 : Int32) (x5 : Int32) (k102 : St_ → Option (Bool × St_)) (hk102 : ∀ (σ1 : St_), Tj l D cA h0 ad RX12 cX12_isLawful 7 (some .boolean) false 5 0 0 (fun b => (some (.int (b2i b.1)), sh, P, b.2)) 0 0 sh P σ1 102 [(0, .ref (h0 + t)), (2, .int x2), (3, .int x3), (4, .int x4), (5, .int x5)] [] (k102 σ1)) : ∀ (n : Nat) (x6 : Int32) (σ : St_), Tj l D cA h0 ad RX12 cX12_isLawful 7 (some .boolean) false 5 0 0 (fun b => (some (.int (b2i b.1)), sh, P, b.2)) 0 0 sh P σ 27 [(0, .ref (h0 + t)), (1, .int x1), (2, .int x2), (3, .int x3), (4, .int x4), (5, .int x5), (6, .int x6)] [] (mX12_isLawful_L27 t x1 x2 x3 x4 x5 k102 n x6 σ) := by
  intro n
  induction n with
  | zero => intros; exact tj_none
  | succ n ih =>
    intro x6 σ
    rw [mX12_isLawful_L27]
    refine tj_iload (q := 29) dX12_isLawful_27 rfl (pl := 6) rfl ?_
    refine tj_aload_n (q := 30) dX12_isLawful_29 rfl (i := 0) rfl (pl := 0) rfl ?_
    refine tj_getI (q := 33) (hT).s fok_12_52 wl_RX12_419 dX12_isLawful_30 rfl ?_
    refine tj_icmp_ge (tgt := 102) (q := 36) dX12_isLawful_33 (by decide) rfl ?_ ?_
    · refine tj_lv [0, 2, 3, 4, 5] rfl ?_
      exact hk102 σ
    · refine tj_aload_n (q := 37) dX12_isLawful_36 rfl (i := 0) rfl (pl := 0) rfl ?_
      refine tj_getR (q := 40) (hT).s (hT).p_asks fok_12_26 wl_RX12_42 dX12_isLawful_37 rfl ?_
      refine tj_iconst (q := 41) (v := 0) dX12_isLawful_40 rfl (by decide) ?_
      refine tj_dup2 (q := 42) dX12_isLawful_41 rfl rfl rfl ?_
      refine tj_iaload (q := 43) (hT).s_asks dX12_isLawful_42 rfl ?_
      refine tj_topI (fun v3 => ?_)
      refine tj_iload_n (q := 44) dX12_isLawful_43 rfl (i := 2) rfl (pl := 2) rfl ?_
      refine tj_iload (q := 46) dX12_isLawful_44 rfl (pl := 6) rfl ?_
      refine tj_ishr (q := 47) dX12_isLawful_46 rfl ?_
      refine tj_iconst (q := 48) (v := 1) dX12_isLawful_47 rfl (by decide) ?_
      refine tj_iand (q := 49) dX12_isLawful_48 rfl ?_
      refine tj_iconst (q := 50) (v := 1) dX12_isLawful_49 rfl (by decide) ?_
      refine tj_bnd (fun k5 => ∀ (j4 : Int32), Tj l D cA h0 ad RX12 cX12_isLawful 7 (some .boolean) false 5 0 0 (fun b => (some (.int (b2i b.1)), sh, P, b.2)) 0 0 sh P σ 64 [(0, .ref (h0 + t)), (1, .int x1), (2, .int x2), (3, .int x3), (4, .int x4), (5, .int x5), (6, .int x6)] [.int j4, .int v3, .int (0 : Int32), .ref (h0 + (t + 10))] (k5 j4)) ?_ (fun k5 hk6 => ?_)
      · intro j4
        refine tj_iadd (q := 65) dX12_isLawful_64 rfl ?_
        refine tj_iastore (q := 66) (hT).s_asks dX12_isLawful_65 rfl (fun σ7 => ?_)
        refine tj_aload_n (q := 67) dX12_isLawful_66 rfl (i := 0) rfl (pl := 0) rfl ?_
        refine tj_getR (q := 70) (hT).s (hT).p_asks fok_12_26 wl_RX12_42 dX12_isLawful_67 rfl ?_
        refine tj_iconst (q := 71) (v := 1) dX12_isLawful_70 rfl (by decide) ?_
        refine tj_dup2 (q := 72) dX12_isLawful_71 rfl rfl rfl ?_
        refine tj_iaload (q := 73) (hT).s_asks dX12_isLawful_72 rfl ?_
        refine tj_topI (fun v8 => ?_)
        refine tj_iload_n (q := 74) dX12_isLawful_73 rfl (i := 3) rfl (pl := 3) rfl ?_
        refine tj_iload (q := 76) dX12_isLawful_74 rfl (pl := 6) rfl ?_
        refine tj_ishr (q := 77) dX12_isLawful_76 rfl ?_
        refine tj_iconst (q := 78) (v := 1) dX12_isLawful_77 rfl (by decide) ?_
        refine tj_iand (q := 79) dX12_isLawful_78 rfl ?_
        refine tj_iconst (q := 80) (v := 1) dX12_isLawful_79 rfl (by decide) ?_
        refine tj_bnd (fun k10 => ∀ (j9 : Int32), Tj l D cA h0 ad RX12 cX12_isLawful 7 (some .boolean) false 5 0 0 (fun b => (some (.int (b2i b.1)), sh, P, b.2)) 0 0 sh P σ7 94 [(0, .ref (h0 + t)), (1, .int x1), (2, .int x2), (3, .int x3), (4, .int x4), (5, .int x5), (6, .int x6)] [.int j9, .int v8, .int (1 : Int32), .ref (h0 + (t + 10))] (k10 j9)) ?_ (fun k10 hk11 => ?_)
        · intro j9
          refine tj_iadd (q := 95) dX12_isLawful_94 rfl ?_
          refine tj_iastore (q := 96) (hT).s_asks dX12_isLawful_95 rfl (fun σ12 => ?_)
          refine tj_iinc (q := 99) (v := x6 + 1) dX12_isLawful_96 rfl (pl := 6) rfl rfl (by decide) rfl ?_
          refine tj_goto (q := 27) dX12_isLawful_99 (by decide) ?_
          refine tj_lv [1, 2, 3, 4, 5, 6, 0] rfl ?_
          exact ih (x6 + 1) σ12
        · refine tj_icmp_ne (tgt := 93) (q := 83) dX12_isLawful_80 (by decide) rfl ?_ ?_
          · refine tj_aload_n (q := 84) dX12_isLawful_83 rfl (i := 0) rfl (pl := 0) rfl ?_
            refine tj_iload (q := 86) dX12_isLawful_84 rfl (pl := 6) rfl ?_
            refine tj_iload_n (q := 87) dX12_isLawful_86 rfl (i := 1) rfl (pl := 1) rfl ?_
            refine tj_callIp (q := 90) (kj_V (As := [.int x6, .int x1]) (rest := [.int v8, .int (1 : Int32), .ref (h0 + (t + 10))]) (t := t) wi_RX12_481 (hT).s rfl (rX12_worthTo t x6 x1 (hT)) rfl (Nat.le_of_ble_eq_true rfl) ⟨Nat.le_of_ble_eq_true rfl, Nat.le_of_ble_eq_true rfl⟩ (Nat.le_of_ble_eq_true rfl) dX12_isLawful_87) rfl (fun r13 => ?_)
            refine tj_goto (q := 94) dX12_isLawful_90 (by decide) ?_
            exact hk11 r13
          · refine tj_iconst (q := 94) (v := 0) dX12_isLawful_93 rfl (by decide) ?_
            exact hk11 (0 : Int32)
      · refine tj_icmp_ne (tgt := 63) (q := 53) dX12_isLawful_50 (by decide) rfl ?_ ?_
        · refine tj_aload_n (q := 54) dX12_isLawful_53 rfl (i := 0) rfl (pl := 0) rfl ?_
          refine tj_iload (q := 56) dX12_isLawful_54 rfl (pl := 6) rfl ?_
          refine tj_iload_n (q := 57) dX12_isLawful_56 rfl (i := 1) rfl (pl := 1) rfl ?_
          refine tj_callIp (q := 60) (kj_V (As := [.int x6, .int x1]) (rest := [.int v3, .int (0 : Int32), .ref (h0 + (t + 10))]) (t := t) wi_RX12_481 (hT).s rfl (rX12_worthTo t x6 x1 (hT)) rfl (Nat.le_of_ble_eq_true rfl) ⟨Nat.le_of_ble_eq_true rfl, Nat.le_of_ble_eq_true rfl⟩ (Nat.le_of_ble_eq_true rfl) dX12_isLawful_57) rfl (fun r14 => ?_)
          refine tj_goto (q := 64) dX12_isLawful_60 (by decide) ?_
          exact hk6 r14
        · refine tj_iconst (q := 64) (v := 0) dX12_isLawful_63 rfl (by decide) ?_
          exact hk6 (0 : Int32)

set_option maxHeartbeats 4000000 in
theorem rX12_isLawful (t : Nat) (p1 : Int32) (p2 : Int32) (p3 : Int32) (p4 : Int32) (p5 : Int32) (hT : LY12 sh P t) : Rj l D cA h0 ad yX12_isLawful cX12_isLawful 7 (some .boolean) false 5 0 0 (fun b => (some (.int (b2i b.1)), sh, P, b.2)) [.ref (h0 + t), .int p1, .int p2, .int p3, .int p4, .int p5] sh P σ (mX12_isLawful t p1 p2 p3 p4 p5 σ) := by
  rw [mX12_isLawful]
  refine Rj.of (by decide) (fun h => by cases h) (Nat.le_of_ble_eq_true rfl) ?_
  refine tj_lv0 (lv' := [(0, .ref (h0 + t)), (1, .int p1), (2, .int p2), (3, .int p3), (4, .int p4), (5, .int p5)]) rfl ?_
  refine tj_iconst (q := 1) (v := 0) dX12_isLawful_0 rfl (by decide) ?_
  refine tj_istore (q := 3) dX12_isLawful_1 rfl (by decide) rfl ?_
  refine tj_lv [1, 2, 3, 4, 5, 6, 0] rfl ?_
  refine tmX12_isLawful_L3 t hT p1 p2 p3 p4 p5 _ ?_ FU (0 : Int32) σ
  · intro σ2
    refine tj_iconst (q := 25) (v := 0) dX12_isLawful_24 rfl (by decide) ?_
    refine tj_istore (q := 27) dX12_isLawful_25 rfl (by decide) rfl ?_
    refine tj_lv [1, 2, 3, 4, 5, 6, 0] rfl ?_
    refine tmX12_isLawful_L27 t hT p1 p2 p3 p4 p5 _ ?_ FU (0 : Int32) σ2
    · intro σ15
      refine tj_aload_n (q := 103) dX12_isLawful_102 rfl (i := 0) rfl (pl := 0) rfl ?_
      refine tj_getI (q := 106) (hT).s fok_12_59 wl_RX12_428 dX12_isLawful_103 rfl ?_
      refine tj_if_ne (tgt := 130) (q := 109) dX12_isLawful_106 (by decide) rfl ?_ ?_
      · refine tj_aload_n (q := 110) dX12_isLawful_109 rfl (i := 0) rfl (pl := 0) rfl ?_
        refine tj_getR (q := 113) (hT).s (hT).p_asks fok_12_26 wl_RX12_42 dX12_isLawful_110 rfl ?_
        refine tj_iconst (q := 114) (v := 1) dX12_isLawful_113 rfl (by decide) ?_
        refine tj_iaload (q := 115) (hT).s_asks dX12_isLawful_114 rfl ?_
        refine tj_topI (fun v16 => ?_)
        refine tj_aload_n (q := 116) dX12_isLawful_115 rfl (i := 0) rfl (pl := 0) rfl ?_
        refine tj_getR (q := 119) (hT).s (hT).p_asks fok_12_26 wl_RX12_42 dX12_isLawful_116 rfl ?_
        refine tj_iconst (q := 120) (v := 0) dX12_isLawful_119 rfl (by decide) ?_
        refine tj_iaload (q := 121) (hT).s_asks dX12_isLawful_120 rfl ?_
        refine tj_topI (fun v17 => ?_)
        refine tj_icmp_le (tgt := 128) (q := 124) dX12_isLawful_121 (by decide) rfl ?_ ?_
        · refine tj_iconst (q := 129) (v := 0) dX12_isLawful_128 rfl (by decide) ?_
          exact tj_zret rfl (by decide) rfl (Nat.le_of_ble_eq_true rfl) (Nat.le_of_ble_eq_true rfl) dX12_isLawful_129
        · refine tj_iconst (q := 125) (v := 1) dX12_isLawful_124 rfl (by decide) ?_
          refine tj_goto (q := 129) dX12_isLawful_125 (by decide) ?_
          exact tj_zret rfl (by decide) rfl (Nat.le_of_ble_eq_true rfl) (Nat.le_of_ble_eq_true rfl) dX12_isLawful_129
      · refine tj_aload_n (q := 131) dX12_isLawful_130 rfl (i := 0) rfl (pl := 0) rfl ?_
        refine tj_getR (q := 134) (hT).s (hT).p_asks fok_12_26 wl_RX12_42 dX12_isLawful_131 rfl ?_
        refine tj_iconst (q := 135) (v := 2) dX12_isLawful_134 rfl (by decide) ?_
        refine tj_iload_n (q := 136) dX12_isLawful_135 rfl (i := 2) rfl (pl := 1) rfl ?_
        refine tj_callIp (q := 139) (kj_S (As := [.int p2]) (rest := [.int (2 : Int32), .ref (h0 + (t + 10))]) wi_RX12_475 (rX12_members p2) rfl (Nat.le_of_ble_eq_true rfl) ⟨Nat.le_of_ble_eq_true rfl, Nat.le_of_ble_eq_true rfl⟩ (Nat.le_of_ble_eq_true rfl) dX12_isLawful_136) rfl (fun r18 => ?_)
        refine tj_iastore (q := 140) (hT).s_asks dX12_isLawful_139 rfl (fun σ19 => ?_)
        refine tj_aload_n (q := 141) dX12_isLawful_140 rfl (i := 0) rfl (pl := 0) rfl ?_
        refine tj_getR (q := 144) (hT).s (hT).p_asks fok_12_26 wl_RX12_42 dX12_isLawful_141 rfl ?_
        refine tj_iconst (q := 145) (v := 3) dX12_isLawful_144 rfl (by decide) ?_
        refine tj_iload_n (q := 146) dX12_isLawful_145 rfl (i := 3) rfl (pl := 2) rfl ?_
        refine tj_callIp (q := 149) (kj_S (As := [.int p3]) (rest := [.int (3 : Int32), .ref (h0 + (t + 10))]) wi_RX12_475 (rX12_members p3) rfl (Nat.le_of_ble_eq_true rfl) ⟨Nat.le_of_ble_eq_true rfl, Nat.le_of_ble_eq_true rfl⟩ (Nat.le_of_ble_eq_true rfl) dX12_isLawful_146) rfl (fun r20 => ?_)
        refine tj_iastore (q := 150) (hT).s_asks dX12_isLawful_149 rfl (fun σ21 => ?_)
        refine tj_aload_n (q := 151) dX12_isLawful_150 rfl (i := 0) rfl (pl := 0) rfl ?_
        refine tj_getR (q := 154) (hT).s (hT).p_asks fok_12_26 wl_RX12_42 dX12_isLawful_151 rfl ?_
        refine tj_iconst (q := 155) (v := 4) dX12_isLawful_154 rfl (by decide) ?_
        refine tj_aload_n (q := 156) dX12_isLawful_155 rfl (i := 0) rfl (pl := 0) rfl ?_
        refine tj_iload_n (q := 157) dX12_isLawful_156 rfl (i := 2) rfl (pl := 1) rfl ?_
        refine tj_iload_n (q := 158) dX12_isLawful_157 rfl (i := 3) rfl (pl := 2) rfl ?_
        refine tj_callIp (q := 161) (kj_V (As := [.int p2, .int p3]) (rest := [.int (4 : Int32), .ref (h0 + (t + 10))]) (t := t) wi_RX12_484 (hT).s rfl (rX12_alike t p2 p3 (hT)) rfl (Nat.le_of_ble_eq_true rfl) ⟨Nat.le_of_ble_eq_true rfl, Nat.le_of_ble_eq_true rfl⟩ (Nat.le_of_ble_eq_true rfl) dX12_isLawful_158) rfl (fun r22 => ?_)
        refine tj_iastore (q := 162) (hT).s_asks dX12_isLawful_161 rfl (fun σ23 => ?_)
        refine tj_aload_n (q := 163) dX12_isLawful_162 rfl (i := 0) rfl (pl := 0) rfl ?_
        refine tj_getR (q := 166) (hT).s (hT).p_asks fok_12_26 wl_RX12_42 dX12_isLawful_163 rfl ?_
        refine tj_iconst (q := 167) (v := 5) dX12_isLawful_166 rfl (by decide) ?_
        refine tj_iload (q := 169) dX12_isLawful_167 rfl (pl := 3) rfl ?_
        refine tj_iastore (q := 170) (hT).s_asks dX12_isLawful_169 rfl (fun σ24 => ?_)
        refine tj_aload_n (q := 171) dX12_isLawful_170 rfl (i := 0) rfl (pl := 0) rfl ?_
        refine tj_getR (q := 174) (hT).s (hT).p_asks fok_12_26 wl_RX12_42 dX12_isLawful_171 rfl ?_
        refine tj_bipush (q := 176) (v := 6) dX12_isLawful_174 rfl (by decide) ?_
        refine tj_iload (q := 178) dX12_isLawful_176 rfl (pl := 4) rfl ?_
        refine tj_iastore (q := 179) (hT).s_asks dX12_isLawful_178 rfl (fun σ25 => ?_)
        refine tj_aload_n (q := 180) dX12_isLawful_179 rfl (i := 0) rfl (pl := 0) rfl ?_
        refine tj_callI (q := 183) (kj_V (As := []) (rest := []) (t := t) wi_RX12_487 (hT).s rfl (rX12_worked t (hT)) rfl (Nat.le_of_ble_eq_true rfl) ⟨Nat.le_of_ble_eq_true rfl, Nat.le_of_ble_eq_true rfl⟩ (Nat.le_of_ble_eq_true rfl) dX12_isLawful_180) rfl (fun r26 => ?_)
        refine tj_if_eq (tgt := 190) (q := 186) dX12_isLawful_183 (by decide) rfl ?_ ?_
        · refine tj_iconst (q := 191) (v := 0) dX12_isLawful_190 rfl (by decide) ?_
          exact tj_zret rfl (by decide) rfl (Nat.le_of_ble_eq_true rfl) (Nat.le_of_ble_eq_true rfl) dX12_isLawful_191
        · refine tj_iconst (q := 187) (v := 1) dX12_isLawful_186 rfl (by decide) ?_
          refine tj_goto (q := 191) dX12_isLawful_187 (by decide) ?_
          exact tj_zret rfl (by decide) rfl (Nat.le_of_ble_eq_true rfl) (Nat.le_of_ble_eq_true rfl) dX12_isLawful_191

theorem dX12_move_0 : decode cX12_move 0 = .ok (.iconst 0, 1) := by decide +kernel
theorem dX12_move_1 : decode cX12_move 1 = .ok (.istore 5, 2) := by decide +kernel
theorem dX12_move_3 : decode cX12_move 3 = .ok (.iload 5, 2) := by decide +kernel
theorem dX12_move_5 : decode cX12_move 5 = .ok (.aload_n 0, 1) := by decide +kernel
theorem dX12_move_6 : decode cX12_move 6 = .ok (.getfield 419, 3) := by decide +kernel
theorem dX12_move_9 : decode cX12_move 9 = .ok (.if_icmp .ge 49, 3) := by decide +kernel
theorem dX12_move_12 : decode cX12_move 12 = .ok (.iload_n 3, 1) := by decide +kernel
theorem dX12_move_13 : decode cX12_move 13 = .ok (.iload 5, 2) := by decide +kernel
theorem dX12_move_15 : decode cX12_move 15 = .ok (.ishr, 1) := by decide +kernel
theorem dX12_move_16 : decode cX12_move 16 = .ok (.iconst 1, 1) := by decide +kernel
theorem dX12_move_17 : decode cX12_move 17 = .ok (.iand, 1) := by decide +kernel
theorem dX12_move_18 : decode cX12_move 18 = .ok (.iconst 1, 1) := by decide +kernel
theorem dX12_move_19 : decode cX12_move 19 = .ok (.if_icmp .ne 14, 3) := by decide +kernel
theorem dX12_move_22 : decode cX12_move 22 = .ok (.aload_n 0, 1) := by decide +kernel
theorem dX12_move_23 : decode cX12_move 23 = .ok (.getfield 105, 3) := by decide +kernel
theorem dX12_move_26 : decode cX12_move 26 = .ok (.iload 5, 2) := by decide +kernel
theorem dX12_move_28 : decode cX12_move 28 = .ok (.bipush 10, 2) := by decide +kernel
theorem dX12_move_30 : decode cX12_move 30 = .ok (.iload_n 1, 1) := by decide +kernel
theorem dX12_move_31 : decode cX12_move 31 = .ok (.iadd, 1) := by decide +kernel
theorem dX12_move_32 : decode cX12_move 32 = .ok (.iastore, 1) := by decide +kernel
theorem dX12_move_33 : decode cX12_move 33 = .ok (.iload 4, 2) := by decide +kernel
theorem dX12_move_35 : decode cX12_move 35 = .ok (.iload 5, 2) := by decide +kernel
theorem dX12_move_37 : decode cX12_move 37 = .ok (.ishr, 1) := by decide +kernel
theorem dX12_move_38 : decode cX12_move 38 = .ok (.iconst 1, 1) := by decide +kernel
theorem dX12_move_39 : decode cX12_move 39 = .ok (.iand, 1) := by decide +kernel
theorem dX12_move_40 : decode cX12_move 40 = .ok (.iconst 1, 1) := by decide +kernel
theorem dX12_move_41 : decode cX12_move 41 = .ok (.if_icmp .ne 11, 3) := by decide +kernel
theorem dX12_move_44 : decode cX12_move 44 = .ok (.aload_n 0, 1) := by decide +kernel
theorem dX12_move_45 : decode cX12_move 45 = .ok (.getfield 105, 3) := by decide +kernel
theorem dX12_move_48 : decode cX12_move 48 = .ok (.iload 5, 2) := by decide +kernel
theorem dX12_move_50 : decode cX12_move 50 = .ok (.iload_n 2, 1) := by decide +kernel
theorem dX12_move_51 : decode cX12_move 51 = .ok (.iastore, 1) := by decide +kernel
theorem dX12_move_52 : decode cX12_move 52 = .ok (.iinc 5 1, 3) := by decide +kernel
theorem dX12_move_55 : decode cX12_move 55 = .ok (.goto (-52), 3) := by decide +kernel
theorem dX12_move_58 : decode cX12_move 58 = .ok (.return_, 1) := by decide +kernel
def mX12_move_L3 (t : Nat) (x1 : Int32) (x2 : Int32) (x3 : Int32) (x4 : Int32) : Nat → Int32 → St_ → Option St_
  | 0, _, _ => none
  | n + 1, x5, σ => (if (σ.1 t 52) ≤ x5 then
 (some σ)
 else (bnd (fun (σ1 : St_) => (bnd (fun (σ4 : St_) => (mX12_move_L3 t x1 x2 x3 x4 n (x5 + 1) σ4)) fun k5 =>
 (if ((x4 >>> (x5 &&& 31)) &&& (1 : Int32)) = (1 : Int32) then
 (if bin x5 10 = true then bnd (sI σ1 (t + 30) x5.toNatClampNeg x2) fun σ7 =>
 (k5 σ7)
 else none)
 else (k5 σ1)))) fun k2 =>
 (if ((x3 >>> (x5 &&& 31)) &&& (1 : Int32)) = (1 : Int32) then
 (if bin x5 10 = true then bnd (sI σ (t + 30) x5.toNatClampNeg ((10 : Int32) + x1)) fun σ8 =>
 (k2 σ8)
 else none)
 else (k2 σ))))
def mX12_move (t : Nat) (p1 : Int32) (p2 : Int32) (p3 : Int32) (p4 : Int32) (σ : St_) : Option St_ :=
 (mX12_move_L3 t p1 p2 p3 p4 FU (0 : Int32) σ)
set_option maxHeartbeats 4000000 in
theorem tmX12_move_L3 (t : Nat) (hT : LY12 sh P t) (x1 : Int32) (x2 : Int32) (x3 : Int32) (x4 : Int32) : ∀ (n : Nat) (x5 : Int32) (σ : St_), Tj l D cA h0 ad RX12 cX12_move 6 none false 2 0 0 (fun b => (none, sh, P, b)) 0 0 sh P σ 3 [(0, .ref (h0 + t)), (1, .int x1), (2, .int x2), (3, .int x3), (4, .int x4), (5, .int x5)] [] (mX12_move_L3 t x1 x2 x3 x4 n x5 σ) := by
  intro n
  induction n with
  | zero => intros; exact tj_none
  | succ n ih =>
    intro x5 σ
    rw [mX12_move_L3]
    refine tj_iload (q := 5) dX12_move_3 rfl (pl := 5) rfl ?_
    refine tj_aload_n (q := 6) dX12_move_5 rfl (i := 0) rfl (pl := 0) rfl ?_
    refine tj_getI (q := 9) (hT).s fok_12_52 wl_RX12_419 dX12_move_6 rfl ?_
    refine tj_icmp_ge (tgt := 58) (q := 12) dX12_move_9 (by decide) rfl ?_ ?_
    · exact tj_vret rfl rfl (Nat.le_of_ble_eq_true rfl) (Nat.le_of_ble_eq_true rfl) dX12_move_58
    · refine tj_iload_n (q := 13) dX12_move_12 rfl (i := 3) rfl (pl := 3) rfl ?_
      refine tj_iload (q := 15) dX12_move_13 rfl (pl := 5) rfl ?_
      refine tj_ishr (q := 16) dX12_move_15 rfl ?_
      refine tj_iconst (q := 17) (v := 1) dX12_move_16 rfl (by decide) ?_
      refine tj_iand (q := 18) dX12_move_17 rfl ?_
      refine tj_iconst (q := 19) (v := 1) dX12_move_18 rfl (by decide) ?_
      refine tj_bnd (fun k2 => ∀ (σ1 : St_), Tj l D cA h0 ad RX12 cX12_move 6 none false 2 0 0 (fun b => (none, sh, P, b)) 0 0 sh P σ1 33 [(0, .ref (h0 + t)), (1, .int x1), (2, .int x2), (3, .int x3), (4, .int x4), (5, .int x5)] [] (k2 σ1)) ?_ (fun k2 hk3 => ?_)
      · intro σ1
        refine tj_iload (q := 35) dX12_move_33 rfl (pl := 4) rfl ?_
        refine tj_iload (q := 37) dX12_move_35 rfl (pl := 5) rfl ?_
        refine tj_ishr (q := 38) dX12_move_37 rfl ?_
        refine tj_iconst (q := 39) (v := 1) dX12_move_38 rfl (by decide) ?_
        refine tj_iand (q := 40) dX12_move_39 rfl ?_
        refine tj_iconst (q := 41) (v := 1) dX12_move_40 rfl (by decide) ?_
        refine tj_bnd (fun k5 => ∀ (σ4 : St_), Tj l D cA h0 ad RX12 cX12_move 6 none false 2 0 0 (fun b => (none, sh, P, b)) 0 0 sh P σ4 52 [(0, .ref (h0 + t)), (1, .int x1), (2, .int x2), (3, .int x3), (4, .int x4), (5, .int x5)] [] (k5 σ4)) ?_ (fun k5 hk6 => ?_)
        · intro σ4
          refine tj_iinc (q := 55) (v := x5 + 1) dX12_move_52 rfl (pl := 5) rfl rfl (by decide) rfl ?_
          refine tj_goto (q := 3) dX12_move_55 (by decide) ?_
          refine tj_lv [1, 2, 3, 4, 5, 0] rfl ?_
          exact ih (x5 + 1) σ4
        · refine tj_icmp_ne (tgt := 52) (q := 44) dX12_move_41 (by decide) rfl ?_ ?_
          · refine tj_aload_n (q := 45) dX12_move_44 rfl (i := 0) rfl (pl := 0) rfl ?_
            refine tj_getR (q := 48) (hT).s (hT).p_w fok_12_61 wl_RX12_105 dX12_move_45 rfl ?_
            refine tj_iload (q := 50) dX12_move_48 rfl (pl := 5) rfl ?_
            refine tj_iload_n (q := 51) dX12_move_50 rfl (i := 2) rfl (pl := 2) rfl ?_
            refine tj_iastore (q := 52) (hT).s_w dX12_move_51 rfl (fun σ7 => ?_)
            exact hk6 σ7
          · exact hk6 σ1
      · refine tj_icmp_ne (tgt := 33) (q := 22) dX12_move_19 (by decide) rfl ?_ ?_
        · refine tj_aload_n (q := 23) dX12_move_22 rfl (i := 0) rfl (pl := 0) rfl ?_
          refine tj_getR (q := 26) (hT).s (hT).p_w fok_12_61 wl_RX12_105 dX12_move_23 rfl ?_
          refine tj_iload (q := 28) dX12_move_26 rfl (pl := 5) rfl ?_
          refine tj_bipush (q := 30) (v := 10) dX12_move_28 rfl (by decide) ?_
          refine tj_iload_n (q := 31) dX12_move_30 rfl (i := 1) rfl (pl := 1) rfl ?_
          refine tj_iadd (q := 32) dX12_move_31 rfl ?_
          refine tj_iastore (q := 33) (hT).s_w dX12_move_32 rfl (fun σ8 => ?_)
          exact hk3 σ8
        · exact hk3 σ

set_option maxHeartbeats 4000000 in
theorem rX12_move (t : Nat) (p1 : Int32) (p2 : Int32) (p3 : Int32) (p4 : Int32) (hT : LY12 sh P t) : Rj l D cA h0 ad yX12_move cX12_move 6 none false 2 0 0 (fun b => (none, sh, P, b)) [.ref (h0 + t), .int p1, .int p2, .int p3, .int p4] sh P σ (mX12_move t p1 p2 p3 p4 σ) := by
  rw [mX12_move]
  refine Rj.of (by decide) (fun h => by cases h) (Nat.le_of_ble_eq_true rfl) ?_
  refine tj_lv0 (lv' := [(0, .ref (h0 + t)), (1, .int p1), (2, .int p2), (3, .int p3), (4, .int p4)]) rfl ?_
  refine tj_iconst (q := 1) (v := 0) dX12_move_0 rfl (by decide) ?_
  refine tj_istore (q := 3) dX12_move_1 rfl (by decide) rfl ?_
  refine tj_lv [1, 2, 3, 4, 5, 0] rfl ?_
  exact tmX12_move_L3 t hT p1 p2 p3 p4 FU (0 : Int32) σ

theorem dX12_thing_0 : decode cX12_thing 0 = .ok (.aload_n 0, 1) := by decide +kernel
theorem dX12_thing_1 : decode cX12_thing 1 = .ok (.iload_n 1, 1) := by decide +kernel
theorem dX12_thing_2 : decode cX12_thing 2 = .ok (.invokevirtual 490, 3) := by decide +kernel
theorem dX12_thing_5 : decode cX12_thing 5 = .ok (.ifCond .ne 6, 3) := by decide +kernel
theorem dX12_thing_8 : decode cX12_thing 8 = .ok (.bipush (-2), 2) := by decide +kernel
theorem dX12_thing_10 : decode cX12_thing 10 = .ok (.ireturn, 1) := by decide +kernel
theorem dX12_thing_11 : decode cX12_thing 11 = .ok (.iload_n 2, 1) := by decide +kernel
theorem dX12_thing_12 : decode cX12_thing 12 = .ok (.tableswitch 104 0 4 #[36, 43, 50, 57, 79], 36) := by decide +kernel
theorem dX12_thing_48 : decode cX12_thing 48 = .ok (.aload_n 0, 1) := by decide +kernel
theorem dX12_thing_49 : decode cX12_thing 49 = .ok (.getfield 72, 3) := by decide +kernel
theorem dX12_thing_52 : decode cX12_thing 52 = .ok (.iload_n 1, 1) := by decide +kernel
theorem dX12_thing_53 : decode cX12_thing 53 = .ok (.iaload, 1) := by decide +kernel
theorem dX12_thing_54 : decode cX12_thing 54 = .ok (.ireturn, 1) := by decide +kernel
theorem dX12_thing_55 : decode cX12_thing 55 = .ok (.aload_n 0, 1) := by decide +kernel
theorem dX12_thing_56 : decode cX12_thing 56 = .ok (.getfield 75, 3) := by decide +kernel
theorem dX12_thing_59 : decode cX12_thing 59 = .ok (.iload_n 1, 1) := by decide +kernel
theorem dX12_thing_60 : decode cX12_thing 60 = .ok (.iaload, 1) := by decide +kernel
theorem dX12_thing_61 : decode cX12_thing 61 = .ok (.ireturn, 1) := by decide +kernel
theorem dX12_thing_62 : decode cX12_thing 62 = .ok (.aload_n 0, 1) := by decide +kernel
theorem dX12_thing_63 : decode cX12_thing 63 = .ok (.getfield 78, 3) := by decide +kernel
theorem dX12_thing_66 : decode cX12_thing 66 = .ok (.iload_n 1, 1) := by decide +kernel
theorem dX12_thing_67 : decode cX12_thing 67 = .ok (.iaload, 1) := by decide +kernel
theorem dX12_thing_68 : decode cX12_thing 68 = .ok (.ireturn, 1) := by decide +kernel
theorem dX12_thing_69 : decode cX12_thing 69 = .ok (.aload_n 0, 1) := by decide +kernel
theorem dX12_thing_70 : decode cX12_thing 70 = .ok (.getfield 102, 3) := by decide +kernel
theorem dX12_thing_73 : decode cX12_thing 73 = .ok (.iload_n 1, 1) := by decide +kernel
theorem dX12_thing_74 : decode cX12_thing 74 = .ok (.iaload, 1) := by decide +kernel
theorem dX12_thing_75 : decode cX12_thing 75 = .ok (.bipush 10, 2) := by decide +kernel
theorem dX12_thing_77 : decode cX12_thing 77 = .ok (.if_icmp .ge 12, 3) := by decide +kernel
theorem dX12_thing_80 : decode cX12_thing 80 = .ok (.aload_n 0, 1) := by decide +kernel
theorem dX12_thing_81 : decode cX12_thing 81 = .ok (.getfield 102, 3) := by decide +kernel
theorem dX12_thing_84 : decode cX12_thing 84 = .ok (.iload_n 1, 1) := by decide +kernel
theorem dX12_thing_85 : decode cX12_thing 85 = .ok (.iaload, 1) := by decide +kernel
theorem dX12_thing_86 : decode cX12_thing 86 = .ok (.goto 4, 3) := by decide +kernel
theorem dX12_thing_89 : decode cX12_thing 89 = .ok (.iconst (-1), 1) := by decide +kernel
theorem dX12_thing_90 : decode cX12_thing 90 = .ok (.ireturn, 1) := by decide +kernel
theorem dX12_thing_91 : decode cX12_thing 91 = .ok (.aload_n 0, 1) := by decide +kernel
theorem dX12_thing_92 : decode cX12_thing 92 = .ok (.getfield 102, 3) := by decide +kernel
theorem dX12_thing_95 : decode cX12_thing 95 = .ok (.iload_n 1, 1) := by decide +kernel
theorem dX12_thing_96 : decode cX12_thing 96 = .ok (.iaload, 1) := by decide +kernel
theorem dX12_thing_97 : decode cX12_thing 97 = .ok (.bipush 10, 2) := by decide +kernel
theorem dX12_thing_99 : decode cX12_thing 99 = .ok (.if_icmp .ge 7, 3) := by decide +kernel
theorem dX12_thing_102 : decode cX12_thing 102 = .ok (.iconst (-1), 1) := by decide +kernel
theorem dX12_thing_103 : decode cX12_thing 103 = .ok (.goto 12, 3) := by decide +kernel
theorem dX12_thing_106 : decode cX12_thing 106 = .ok (.aload_n 0, 1) := by decide +kernel
theorem dX12_thing_107 : decode cX12_thing 107 = .ok (.getfield 102, 3) := by decide +kernel
theorem dX12_thing_110 : decode cX12_thing 110 = .ok (.iload_n 1, 1) := by decide +kernel
theorem dX12_thing_111 : decode cX12_thing 111 = .ok (.iaload, 1) := by decide +kernel
theorem dX12_thing_112 : decode cX12_thing 112 = .ok (.bipush 10, 2) := by decide +kernel
theorem dX12_thing_114 : decode cX12_thing 114 = .ok (.isub, 1) := by decide +kernel
theorem dX12_thing_115 : decode cX12_thing 115 = .ok (.ireturn, 1) := by decide +kernel
theorem dX12_thing_116 : decode cX12_thing 116 = .ok (.bipush (-2), 2) := by decide +kernel
theorem dX12_thing_118 : decode cX12_thing 118 = .ok (.ireturn, 1) := by decide +kernel
theorem wm_X12_isThing : Cond.instanceMethod yX12_isThing ∈ TB ∧ Cond.selects yX12_isThing.cls yX12_isThing yX12_isThing ∈ TB ∧ Cond.initialized yX12_isThing.cls ∈ TB ∧ Cond.code yX12_isThing cX12_isThing 2 (some .boolean) ∈ TB ∧ (yX12_isThing.cls ≠ "java/lang/invoke/MethodHandle" ∧ yX12_isThing.cls ≠ "java/lang/invoke/VarHandle" ∧ (parseMethodDescriptor yX12_isThing.desc).map (fun d => d.parameters.length) = some 1) ∧ 2 ≤ 21 := ⟨tbm 1880 (by decide +kernel) (by decide +kernel), tbm 88 (by decide +kernel) (by decide +kernel), tbm 146 (by decide +kernel) (by decide +kernel), tbm 1881 (by decide +kernel) (by decide +kernel), by decide +kernel, by decide⟩
theorem wi_RX12_490 : Iv RX12 490 yX12_isThing cX12_isThing 2 (some .boolean) 1 := ⟨tbm 1878 (by decide +kernel) (by decide +kernel), wm_X12_isThing⟩
def mX12_thing (t : Nat) (p1 : Int32) (p2 : Int32) (σ : St_) : Option Int32 :=
 ((mX12_isThing t p1 σ).bind fun r1 =>
 (if r1 = true then
 (if p2 = 0 then (if bin p1 10 = true then bnd (σ.1 (t + 20) p1.toNatClampNeg) fun v3 =>
 (some v3)
 else none)
 else (if p2 = 1 then (if bin p1 10 = true then bnd (σ.1 (t + 21) p1.toNatClampNeg) fun v5 =>
 (some v5)
 else none)
 else (if p2 = 2 then (if bin p1 10 = true then bnd (σ.1 (t + 22) p1.toNatClampNeg) fun v7 =>
 (some v7)
 else none)
 else (if p2 = 3 then (if bin p1 20 = true then bnd (σ.1 (t + 29) p1.toNatClampNeg) fun v9 =>
 (if (10 : Int32) ≤ v9 then
 (some (-1 : Int32))
 else (if bin p1 20 = true then bnd (σ.1 (t + 29) p1.toNatClampNeg) fun v10 =>
 (some v10)
 else none))
 else none)
 else (if p2 = 4 then (if bin p1 20 = true then bnd (σ.1 (t + 29) p1.toNatClampNeg) fun v12 =>
 (if (10 : Int32) ≤ v12 then
 (if bin p1 20 = true then bnd (σ.1 (t + 29) p1.toNatClampNeg) fun v13 =>
 (some (v13 - (10 : Int32)))
 else none)
 else (some (-1 : Int32)))
 else none)
 else (some (-2 : Int32)))))))
 else (some (-2 : Int32))))
set_option maxHeartbeats 4000000 in
theorem rX12_thing (t : Nat) (p1 : Int32) (p2 : Int32) (hT : LY12 sh P t) : Rj l D cA h0 ad yX12_thing cX12_thing 3 (some .int) false 4 0 0 (fun b => (some (.int b), sh, P, σ)) [.ref (h0 + t), .int p1, .int p2] sh P σ (mX12_thing t p1 p2 σ) := by
  rw [mX12_thing]
  refine Rj.of (by decide) (fun h => by cases h) (Nat.le_of_ble_eq_true rfl) ?_
  refine tj_lv0 (lv' := [(0, .ref (h0 + t)), (1, .int p1), (2, .int p2)]) rfl ?_
  refine tj_aload_n (q := 1) dX12_thing_0 rfl (i := 0) rfl (pl := 0) rfl ?_
  refine tj_iload_n (q := 2) dX12_thing_1 rfl (i := 1) rfl (pl := 1) rfl ?_
  refine tj_callZp (q := 5) (kj_V (As := [.int p1]) (rest := []) (t := t) wi_RX12_490 (hT).s rfl (rX12_isThing t p1 (hT)) rfl (Nat.le_of_ble_eq_true rfl) ⟨Nat.le_of_ble_eq_true rfl, Nat.le_of_ble_eq_true rfl⟩ (Nat.le_of_ble_eq_true rfl) dX12_thing_2) rfl (fun r1 => ?_)
  refine tj_bnz (tgt := 11) (q := 8) dX12_thing_5 (by decide) rfl ?_ ?_
  · refine tj_iload_n (q := 12) dX12_thing_11 rfl (i := 2) rfl (pl := 2) rfl ?_
    refine tj_caseI (fun hc2 => ?_) (fun hc2 => ?_)
    · refine tj_tin (tgt := 48) (k := 0) (off := 36) dX12_thing_12 hc2 (by decide) (by decide) (by decide) (by decide) ?_
      refine tj_aload_n (q := 49) dX12_thing_48 rfl (i := 0) rfl (pl := 0) rfl ?_
      refine tj_getR (q := 52) (hT).s (hT).p_kindOf fok_12_36 wl_RX12_72 dX12_thing_49 rfl ?_
      refine tj_iload_n (q := 53) dX12_thing_52 rfl (i := 1) rfl (pl := 1) rfl ?_
      refine tj_iaload (q := 54) (hT).s_kindOf dX12_thing_53 rfl ?_
      refine tj_topI (fun v3 => ?_)
      exact tj_iret rfl rfl (Nat.le_of_ble_eq_true rfl) (Nat.le_of_ble_eq_true rfl) dX12_thing_54
    · refine tj_caseI (fun hc4 => ?_) (fun hc4 => ?_)
      · refine tj_tin (tgt := 55) (k := 1) (off := 43) dX12_thing_12 hc4 (by decide) (by decide) (by decide) (by decide) ?_
        refine tj_aload_n (q := 56) dX12_thing_55 rfl (i := 0) rfl (pl := 0) rfl ?_
        refine tj_getR (q := 59) (hT).s (hT).p_weight fok_12_37 wl_RX12_75 dX12_thing_56 rfl ?_
        refine tj_iload_n (q := 60) dX12_thing_59 rfl (i := 1) rfl (pl := 1) rfl ?_
        refine tj_iaload (q := 61) (hT).s_weight dX12_thing_60 rfl ?_
        refine tj_topI (fun v5 => ?_)
        exact tj_iret rfl rfl (Nat.le_of_ble_eq_true rfl) (Nat.le_of_ble_eq_true rfl) dX12_thing_61
      · refine tj_caseI (fun hc6 => ?_) (fun hc6 => ?_)
        · refine tj_tin (tgt := 62) (k := 2) (off := 50) dX12_thing_12 hc6 (by decide) (by decide) (by decide) (by decide) ?_
          refine tj_aload_n (q := 63) dX12_thing_62 rfl (i := 0) rfl (pl := 0) rfl ?_
          refine tj_getR (q := 66) (hT).s (hT).p_worth fok_12_38 wl_RX12_78 dX12_thing_63 rfl ?_
          refine tj_iload_n (q := 67) dX12_thing_66 rfl (i := 1) rfl (pl := 1) rfl ?_
          refine tj_iaload (q := 68) (hT).s_worth dX12_thing_67 rfl ?_
          refine tj_topI (fun v7 => ?_)
          exact tj_iret rfl rfl (Nat.le_of_ble_eq_true rfl) (Nat.le_of_ble_eq_true rfl) dX12_thing_68
        · refine tj_caseI (fun hc8 => ?_) (fun hc8 => ?_)
          · refine tj_tin (tgt := 69) (k := 3) (off := 57) dX12_thing_12 hc8 (by decide) (by decide) (by decide) (by decide) ?_
            refine tj_aload_n (q := 70) dX12_thing_69 rfl (i := 0) rfl (pl := 0) rfl ?_
            refine tj_getR (q := 73) (hT).s (hT).p_now fok_12_60 wl_RX12_102 dX12_thing_70 rfl ?_
            refine tj_iload_n (q := 74) dX12_thing_73 rfl (i := 1) rfl (pl := 1) rfl ?_
            refine tj_iaload (q := 75) (hT).s_now dX12_thing_74 rfl ?_
            refine tj_topI (fun v9 => ?_)
            refine tj_bipush (q := 77) (v := 10) dX12_thing_75 rfl (by decide) ?_
            refine tj_icmp_ge (tgt := 89) (q := 80) dX12_thing_77 (by decide) rfl ?_ ?_
            · refine tj_iconst (q := 90) (v := (-1)) dX12_thing_89 rfl (by decide) ?_
              exact tj_iret rfl rfl (Nat.le_of_ble_eq_true rfl) (Nat.le_of_ble_eq_true rfl) dX12_thing_90
            · refine tj_aload_n (q := 81) dX12_thing_80 rfl (i := 0) rfl (pl := 0) rfl ?_
              refine tj_getR (q := 84) (hT).s (hT).p_now fok_12_60 wl_RX12_102 dX12_thing_81 rfl ?_
              refine tj_iload_n (q := 85) dX12_thing_84 rfl (i := 1) rfl (pl := 1) rfl ?_
              refine tj_iaload (q := 86) (hT).s_now dX12_thing_85 rfl ?_
              refine tj_topI (fun v10 => ?_)
              refine tj_goto (q := 90) dX12_thing_86 (by decide) ?_
              exact tj_iret rfl rfl (Nat.le_of_ble_eq_true rfl) (Nat.le_of_ble_eq_true rfl) dX12_thing_90
          · refine tj_caseI (fun hc11 => ?_) (fun hc11 => ?_)
            · refine tj_tin (tgt := 91) (k := 4) (off := 79) dX12_thing_12 hc11 (by decide) (by decide) (by decide) (by decide) ?_
              refine tj_aload_n (q := 92) dX12_thing_91 rfl (i := 0) rfl (pl := 0) rfl ?_
              refine tj_getR (q := 95) (hT).s (hT).p_now fok_12_60 wl_RX12_102 dX12_thing_92 rfl ?_
              refine tj_iload_n (q := 96) dX12_thing_95 rfl (i := 1) rfl (pl := 1) rfl ?_
              refine tj_iaload (q := 97) (hT).s_now dX12_thing_96 rfl ?_
              refine tj_topI (fun v12 => ?_)
              refine tj_bipush (q := 99) (v := 10) dX12_thing_97 rfl (by decide) ?_
              refine tj_icmp_ge (tgt := 106) (q := 102) dX12_thing_99 (by decide) rfl ?_ ?_
              · refine tj_aload_n (q := 107) dX12_thing_106 rfl (i := 0) rfl (pl := 0) rfl ?_
                refine tj_getR (q := 110) (hT).s (hT).p_now fok_12_60 wl_RX12_102 dX12_thing_107 rfl ?_
                refine tj_iload_n (q := 111) dX12_thing_110 rfl (i := 1) rfl (pl := 1) rfl ?_
                refine tj_iaload (q := 112) (hT).s_now dX12_thing_111 rfl ?_
                refine tj_topI (fun v13 => ?_)
                refine tj_bipush (q := 114) (v := 10) dX12_thing_112 rfl (by decide) ?_
                refine tj_isub (q := 115) dX12_thing_114 rfl ?_
                exact tj_iret rfl rfl (Nat.le_of_ble_eq_true rfl) (Nat.le_of_ble_eq_true rfl) dX12_thing_115
              · refine tj_iconst (q := 103) (v := (-1)) dX12_thing_102 rfl (by decide) ?_
                refine tj_goto (q := 115) dX12_thing_103 (by decide) ?_
                exact tj_iret rfl rfl (Nat.le_of_ble_eq_true rfl) (Nat.le_of_ble_eq_true rfl) dX12_thing_115
            · refine tj_dflt (tgt := 116) ?_ (fun hD14 => ?_)
              · refine tj_bipush (q := 118) (v := (-2)) dX12_thing_116 rfl (by decide) ?_
                exact tj_iret rfl rfl (Nat.le_of_ble_eq_true rfl) (Nat.le_of_ble_eq_true rfl) dX12_thing_118
              · exact tj_tout (tgt := 116) dX12_thing_12 (by have e0 := lv_neT (a := 0) hc2 (by decide); have e1 := lv_neT (a := 1) hc4 (by decide); have e2 := lv_neT (a := 2) hc6 (by decide); have e3 := lv_neT (a := 3) hc8 (by decide); have e4 := lv_neT (a := 4) hc11 (by decide); omega) (by decide) hD14
  · refine tj_bipush (q := 10) (v := (-2)) dX12_thing_8 rfl (by decide) ?_
    exact tj_iret rfl rfl (Nat.le_of_ble_eq_true rfl) (Nat.le_of_ble_eq_true rfl) dX12_thing_10

theorem dX12_worth_0 : decode cX12_worth 0 = .ok (.aload_n 0, 1) := by decide +kernel
theorem dX12_worth_1 : decode cX12_worth 1 = .ok (.iload_n 1, 1) := by decide +kernel
theorem dX12_worth_2 : decode cX12_worth 2 = .ok (.invokevirtual 490, 3) := by decide +kernel
theorem dX12_worth_5 : decode cX12_worth 5 = .ok (.ifCond .eq 22, 3) := by decide +kernel
theorem dX12_worth_8 : decode cX12_worth 8 = .ok (.aload_n 0, 1) := by decide +kernel
theorem dX12_worth_9 : decode cX12_worth 9 = .ok (.iload_n 2, 1) := by decide +kernel
theorem dX12_worth_10 : decode cX12_worth 10 = .ok (.iload_n 3, 1) := by decide +kernel
theorem dX12_worth_11 : decode cX12_worth 11 = .ok (.invokevirtual 493, 3) := by decide +kernel
theorem dX12_worth_14 : decode cX12_worth 14 = .ok (.ifCond .eq 13, 3) := by decide +kernel
theorem dX12_worth_17 : decode cX12_worth 17 = .ok (.aload_n 0, 1) := by decide +kernel
theorem dX12_worth_18 : decode cX12_worth 18 = .ok (.iload_n 1, 1) := by decide +kernel
theorem dX12_worth_19 : decode cX12_worth 19 = .ok (.iload_n 2, 1) := by decide +kernel
theorem dX12_worth_20 : decode cX12_worth 20 = .ok (.iload_n 3, 1) := by decide +kernel
theorem dX12_worth_21 : decode cX12_worth 21 = .ok (.invokevirtual 465, 3) := by decide +kernel
theorem dX12_worth_24 : decode cX12_worth 24 = .ok (.goto 4, 3) := by decide +kernel
theorem dX12_worth_27 : decode cX12_worth 27 = .ok (.iconst (-1), 1) := by decide +kernel
theorem dX12_worth_28 : decode cX12_worth 28 = .ok (.ireturn, 1) := by decide +kernel
theorem wm_X12_isHolder : Cond.instanceMethod yX12_isHolder ∈ TB ∧ Cond.selects yX12_isHolder.cls yX12_isHolder yX12_isHolder ∈ TB ∧ Cond.initialized yX12_isHolder.cls ∈ TB ∧ Cond.code yX12_isHolder cX12_isHolder 3 (some .boolean) ∈ TB ∧ (yX12_isHolder.cls ≠ "java/lang/invoke/MethodHandle" ∧ yX12_isHolder.cls ≠ "java/lang/invoke/VarHandle" ∧ (parseMethodDescriptor yX12_isHolder.desc).map (fun d => d.parameters.length) = some 2) ∧ 3 ≤ 21 := ⟨tbm 1891 (by decide +kernel) (by decide +kernel), tbm 89 (by decide +kernel) (by decide +kernel), tbm 146 (by decide +kernel) (by decide +kernel), tbm 1892 (by decide +kernel) (by decide +kernel), by decide +kernel, by decide⟩
theorem wi_RX12_493 : Iv RX12 493 yX12_isHolder cX12_isHolder 3 (some .boolean) 2 := ⟨tbm 1889 (by decide +kernel) (by decide +kernel), wm_X12_isHolder⟩
def mX12_worth (t : Nat) (p1 : Int32) (p2 : Int32) (p3 : Bool) (σ : St_) : Option Int32 :=
 ((mX12_isThing t p1 σ).bind fun r1 =>
 (if r1 = true then
 ((mX12_isHolder t p2 p3 σ).bind fun r2 =>
 (if r2 = true then
 ((mX12_trueWorth t p1 p2 p3 σ).bind fun r3 =>
 (some r3))
 else (some (-1 : Int32))))
 else (some (-1 : Int32))))
set_option maxHeartbeats 4000000 in
theorem rX12_worth (t : Nat) (p1 : Int32) (p2 : Int32) (p3 : Bool) (hT : LY12 sh P t) : Rj l D cA h0 ad yX12_worth cX12_worth 4 (some .int) false 5 0 0 (fun b => (some (.int b), sh, P, σ)) [.ref (h0 + t), .int p1, .int p2, .int (b2i p3)] sh P σ (mX12_worth t p1 p2 p3 σ) := by
  rw [mX12_worth]
  refine Rj.of (by decide) (fun h => by cases h) (Nat.le_of_ble_eq_true rfl) ?_
  refine tj_lv0 (lv' := [(0, .ref (h0 + t)), (1, .int p1), (2, .int p2), (3, .int (b2i p3))]) rfl ?_
  refine tj_aload_n (q := 1) dX12_worth_0 rfl (i := 0) rfl (pl := 0) rfl ?_
  refine tj_iload_n (q := 2) dX12_worth_1 rfl (i := 1) rfl (pl := 1) rfl ?_
  refine tj_callZp (q := 5) (kj_V (As := [.int p1]) (rest := []) (t := t) wi_RX12_490 (hT).s rfl (rX12_isThing t p1 (hT)) rfl (Nat.le_of_ble_eq_true rfl) ⟨Nat.le_of_ble_eq_true rfl, Nat.le_of_ble_eq_true rfl⟩ (Nat.le_of_ble_eq_true rfl) dX12_worth_2) rfl (fun r1 => ?_)
  refine tj_bz (tgt := 27) (q := 8) dX12_worth_5 (by decide) rfl ?_ ?_
  · refine tj_aload_n (q := 9) dX12_worth_8 rfl (i := 0) rfl (pl := 0) rfl ?_
    refine tj_iload_n (q := 10) dX12_worth_9 rfl (i := 2) rfl (pl := 2) rfl ?_
    refine tj_iload_n (q := 11) dX12_worth_10 rfl (i := 3) rfl (pl := 3) rfl ?_
    refine tj_callZp (q := 14) (kj_V (As := [.int p2, .int (b2i p3)]) (rest := []) (t := t) wi_RX12_493 (hT).s rfl (rX12_isHolder t p2 p3 (hT)) rfl (Nat.le_of_ble_eq_true rfl) ⟨Nat.le_of_ble_eq_true rfl, Nat.le_of_ble_eq_true rfl⟩ (Nat.le_of_ble_eq_true rfl) dX12_worth_11) rfl (fun r2 => ?_)
    refine tj_bz (tgt := 27) (q := 17) dX12_worth_14 (by decide) rfl ?_ ?_
    · refine tj_aload_n (q := 18) dX12_worth_17 rfl (i := 0) rfl (pl := 0) rfl ?_
      refine tj_iload_n (q := 19) dX12_worth_18 rfl (i := 1) rfl (pl := 1) rfl ?_
      refine tj_iload_n (q := 20) dX12_worth_19 rfl (i := 2) rfl (pl := 2) rfl ?_
      refine tj_iload_n (q := 21) dX12_worth_20 rfl (i := 3) rfl (pl := 3) rfl ?_
      refine tj_callIp (q := 24) (kj_V (As := [.int p1, .int p2, .int (b2i p3)]) (rest := []) (t := t) wi_RX12_465 (hT).s rfl (rX12_trueWorth t p1 p2 p3 (hT)) rfl (Nat.le_of_ble_eq_true rfl) ⟨Nat.le_of_ble_eq_true rfl, Nat.le_of_ble_eq_true rfl⟩ (Nat.le_of_ble_eq_true rfl) dX12_worth_21) rfl (fun r3 => ?_)
      refine tj_goto (q := 28) dX12_worth_24 (by decide) ?_
      exact tj_iret rfl rfl (Nat.le_of_ble_eq_true rfl) (Nat.le_of_ble_eq_true rfl) dX12_worth_28
    · refine tj_iconst (q := 28) (v := (-1)) dX12_worth_27 rfl (by decide) ?_
      exact tj_iret rfl rfl (Nat.le_of_ble_eq_true rfl) (Nat.le_of_ble_eq_true rfl) dX12_worth_28
  · refine tj_iconst (q := 28) (v := (-1)) dX12_worth_27 rfl (by decide) ?_
    exact tj_iret rfl rfl (Nat.le_of_ble_eq_true rfl) (Nat.le_of_ble_eq_true rfl) dX12_worth_28

theorem dX12_whereOf_0 : decode cX12_whereOf 0 = .ok (.iload_n 1, 1) := by decide +kernel
theorem dX12_whereOf_1 : decode cX12_whereOf 1 = .ok (.ifCond .eq 10, 3) := by decide +kernel
theorem dX12_whereOf_4 : decode cX12_whereOf 4 = .ok (.bipush 10, 2) := by decide +kernel
theorem dX12_whereOf_6 : decode cX12_whereOf 6 = .ok (.iload_n 0, 1) := by decide +kernel
theorem dX12_whereOf_7 : decode cX12_whereOf 7 = .ok (.iadd, 1) := by decide +kernel
theorem dX12_whereOf_8 : decode cX12_whereOf 8 = .ok (.goto 4, 3) := by decide +kernel
theorem dX12_whereOf_11 : decode cX12_whereOf 11 = .ok (.iload_n 0, 1) := by decide +kernel
theorem dX12_whereOf_12 : decode cX12_whereOf 12 = .ok (.ireturn, 1) := by decide +kernel
def mX12_whereOf (p1 : Int32) (p2 : Bool) (σ : St_) : Option Int32 :=
 (if p2 = true then
 (some ((10 : Int32) + p1))
 else (some p1))
set_option maxHeartbeats 4000000 in
theorem rX12_whereOf (p1 : Int32) (p2 : Bool)  : Rj l D cA h0 ad yX12_whereOf cX12_whereOf 2 (some .int) false 2 0 0 (fun b => (some (.int b), sh, P, σ)) [.int p1, .int (b2i p2)] sh P σ (mX12_whereOf p1 p2 σ) := by
  rw [mX12_whereOf]
  refine Rj.of (by decide) (fun h => by cases h) (Nat.le_of_ble_eq_true rfl) ?_
  refine tj_lv0 (lv' := [(0, .int p1), (1, .int (b2i p2))]) rfl ?_
  refine tj_iload_n (q := 1) dX12_whereOf_0 rfl (i := 1) rfl (pl := 1) rfl ?_
  refine tj_bz (tgt := 11) (q := 4) dX12_whereOf_1 (by decide) rfl ?_ ?_
  · refine tj_bipush (q := 6) (v := 10) dX12_whereOf_4 rfl (by decide) ?_
    refine tj_iload_n (q := 7) dX12_whereOf_6 rfl (i := 0) rfl (pl := 0) rfl ?_
    refine tj_iadd (q := 8) dX12_whereOf_7 rfl ?_
    refine tj_goto (q := 12) dX12_whereOf_8 (by decide) ?_
    exact tj_iret rfl rfl (Nat.le_of_ble_eq_true rfl) (Nat.le_of_ble_eq_true rfl) dX12_whereOf_12
  · refine tj_iload_n (q := 12) dX12_whereOf_11 rfl (i := 0) rfl (pl := 0) rfl ?_
    exact tj_iret rfl rfl (Nat.le_of_ble_eq_true rfl) (Nat.le_of_ble_eq_true rfl) dX12_whereOf_12

theorem dX12_has_0 : decode cX12_has 0 = .ok (.aload_n 0, 1) := by decide +kernel
theorem dX12_has_1 : decode cX12_has 1 = .ok (.invokevirtual 497, 3) := by decide +kernel
theorem dX12_has_4 : decode cX12_has 4 = .ok (.aload_n 0, 1) := by decide +kernel
theorem dX12_has_5 : decode cX12_has 5 = .ok (.iload_n 1, 1) := by decide +kernel
theorem dX12_has_6 : decode cX12_has 6 = .ok (.iload_n 2, 1) := by decide +kernel
theorem dX12_has_7 : decode cX12_has 7 = .ok (.invokevirtual 493, 3) := by decide +kernel
theorem dX12_has_10 : decode cX12_has 10 = .ok (.ifCond .eq 15, 3) := by decide +kernel
theorem dX12_has_13 : decode cX12_has 13 = .ok (.aload_n 0, 1) := by decide +kernel
theorem dX12_has_14 : decode cX12_has 14 = .ok (.iload_n 1, 1) := by decide +kernel
theorem dX12_has_15 : decode cX12_has 15 = .ok (.iload_n 2, 1) := by decide +kernel
theorem dX12_has_16 : decode cX12_has 16 = .ok (.invokestatic 500, 3) := by decide +kernel
theorem dX12_has_19 : decode cX12_has 19 = .ok (.invokevirtual 469, 3) := by decide +kernel
theorem dX12_has_22 : decode cX12_has 22 = .ok (.goto 4, 3) := by decide +kernel
theorem dX12_has_25 : decode cX12_has 25 = .ok (.iconst (-1), 1) := by decide +kernel
theorem dX12_has_26 : decode cX12_has 26 = .ok (.ireturn, 1) := by decide +kernel
theorem wm_X12_load : Cond.instanceMethod yX12_load ∈ TB ∧ Cond.selects yX12_load.cls yX12_load yX12_load ∈ TB ∧ Cond.initialized yX12_load.cls ∈ TB ∧ Cond.code yX12_load cX12_load 2 none ∈ TB ∧ (yX12_load.cls ≠ "java/lang/invoke/MethodHandle" ∧ yX12_load.cls ≠ "java/lang/invoke/VarHandle" ∧ (parseMethodDescriptor yX12_load.desc).map (fun d => d.parameters.length) = some 0) ∧ 2 ≤ 21 := ⟨tbm 1911 (by decide +kernel) (by decide +kernel), tbm 93 (by decide +kernel) (by decide +kernel), tbm 146 (by decide +kernel) (by decide +kernel), tbm 1912 (by decide +kernel) (by decide +kernel), by decide +kernel, by decide⟩
theorem wi_RX12_497 : Iv RX12 497 yX12_load cX12_load 2 none 0 := ⟨tbm 1909 (by decide +kernel) (by decide +kernel), wm_X12_load⟩
theorem wm_X12_whereOf : Cond.static yX12_whereOf ∈ TB ∧ Cond.initialized yX12_whereOf.cls ∈ TB ∧ Cond.code yX12_whereOf cX12_whereOf 2 (some .int) ∈ TB ∧ (yX12_whereOf.cls ≠ "java/lang/invoke/MethodHandle" ∧ yX12_whereOf.cls ≠ "java/lang/invoke/VarHandle" ∧ (parseMethodDescriptor yX12_whereOf.desc).map (fun d => d.parameters.length) = some 2) ∧ 2 ≤ 21 := ⟨tbm 1914 (by decide +kernel) (by decide +kernel), tbm 146 (by decide +kernel) (by decide +kernel), tbm 1915 (by decide +kernel) (by decide +kernel), by decide +kernel, by decide⟩
theorem wi_RX12_500 : Is RX12 500 yX12_whereOf cX12_whereOf 2 (some .int) 2 := ⟨tbm 1913 (by decide +kernel) (by decide +kernel), wm_X12_whereOf⟩
def mX12_has (t : Nat) (p1 : Int32) (p2 : Bool) (σ : St_) : Option (Int32 × St_) :=
 ((mX12_load t σ).bind fun σ1 =>
 ((mX12_isHolder t p1 p2 σ1).bind fun r2 =>
 (if r2 = true then
 ((mX12_whereOf p1 p2 σ1).bind fun r3 =>
 ((mX12_hasAt t r3 σ1).bind fun r4 =>
 (some (r4, σ1))))
 else (some ((-1 : Int32), σ1)))))
set_option maxHeartbeats 4000000 in
theorem rX12_has (t : Nat) (p1 : Int32) (p2 : Bool) (hT : LY12 sh P t) : Rj l D cA h0 ad yX12_has cX12_has 3 (some .int) false 5 0 0 (fun b => (some (.int b.1), sh, P, b.2)) [.ref (h0 + t), .int p1, .int (b2i p2)] sh P σ (mX12_has t p1 p2 σ) := by
  rw [mX12_has]
  refine Rj.of (by decide) (fun h => by cases h) (Nat.le_of_ble_eq_true rfl) ?_
  refine tj_lv0 (lv' := [(0, .ref (h0 + t)), (1, .int p1), (2, .int (b2i p2))]) rfl ?_
  refine tj_aload_n (q := 1) dX12_has_0 rfl (i := 0) rfl (pl := 0) rfl ?_
  refine tj_callV (q := 4) (kj_V (As := []) (rest := []) (t := t) wi_RX12_497 (hT).s rfl (rX12_load t (hT)) rfl (Nat.le_of_ble_eq_true rfl) ⟨Nat.le_of_ble_eq_true rfl, Nat.le_of_ble_eq_true rfl⟩ (Nat.le_of_ble_eq_true rfl) dX12_has_1) rfl (fun σ1 => ?_)
  refine tj_aload_n (q := 5) dX12_has_4 rfl (i := 0) rfl (pl := 0) rfl ?_
  refine tj_iload_n (q := 6) dX12_has_5 rfl (i := 1) rfl (pl := 1) rfl ?_
  refine tj_iload_n (q := 7) dX12_has_6 rfl (i := 2) rfl (pl := 2) rfl ?_
  refine tj_callZp (q := 10) (kj_V (As := [.int p1, .int (b2i p2)]) (rest := []) (t := t) wi_RX12_493 (hT).s rfl (rX12_isHolder t p1 p2 (hT)) rfl (Nat.le_of_ble_eq_true rfl) ⟨Nat.le_of_ble_eq_true rfl, Nat.le_of_ble_eq_true rfl⟩ (Nat.le_of_ble_eq_true rfl) dX12_has_7) rfl (fun r2 => ?_)
  refine tj_bz (tgt := 25) (q := 13) dX12_has_10 (by decide) rfl ?_ ?_
  · refine tj_aload_n (q := 14) dX12_has_13 rfl (i := 0) rfl (pl := 0) rfl ?_
    refine tj_iload_n (q := 15) dX12_has_14 rfl (i := 1) rfl (pl := 1) rfl ?_
    refine tj_iload_n (q := 16) dX12_has_15 rfl (i := 2) rfl (pl := 2) rfl ?_
    refine tj_callIp (q := 19) (kj_S (As := [.int p1, .int (b2i p2)]) (rest := [.ref (h0 + t)]) wi_RX12_500 (rX12_whereOf p1 p2) rfl (Nat.le_of_ble_eq_true rfl) ⟨Nat.le_of_ble_eq_true rfl, Nat.le_of_ble_eq_true rfl⟩ (Nat.le_of_ble_eq_true rfl) dX12_has_16) rfl (fun r3 => ?_)
    refine tj_callIp (q := 22) (kj_V (As := [.int r3]) (rest := []) (t := t) wi_RX12_469 (hT).s rfl (rX12_hasAt t r3 (hT)) rfl (Nat.le_of_ble_eq_true rfl) ⟨Nat.le_of_ble_eq_true rfl, Nat.le_of_ble_eq_true rfl⟩ (Nat.le_of_ble_eq_true rfl) dX12_has_19) rfl (fun r4 => ?_)
    refine tj_goto (q := 26) dX12_has_22 (by decide) ?_
    exact tj_iret rfl rfl (Nat.le_of_ble_eq_true rfl) (Nat.le_of_ble_eq_true rfl) dX12_has_26
  · refine tj_iconst (q := 26) (v := (-1)) dX12_has_25 rfl (by decide) ?_
    exact tj_iret rfl rfl (Nat.le_of_ble_eq_true rfl) (Nat.le_of_ble_eq_true rfl) dX12_has_26

end
