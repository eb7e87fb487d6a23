abbrev b_La_law : ByteArray := code
abbrev n_La_law : MethodName := ⟨"BeltRowsLaw", "law", "([I)Z"⟩
theorem d_La_law_0 : decode b_La_law 0 = .ok (.new 8, 3) := by decide +kernel
theorem d_La_law_3 : decode b_La_law 3 = .ok (.dup, 1) := by decide +kernel
theorem d_La_law_4 : decode b_La_law 4 = .ok (.invokespecial 77, 3) := by decide +kernel
theorem d_La_law_7 : decode b_La_law 7 = .ok (.astore_n 1, 1) := by decide +kernel
theorem d_La_law_8 : decode b_La_law 8 = .ok (.new 78, 3) := by decide +kernel
theorem d_La_law_11 : decode b_La_law 11 = .ok (.dup, 1) := by decide +kernel
theorem d_La_law_12 : decode b_La_law 12 = .ok (.invokespecial 80, 3) := by decide +kernel
theorem d_La_law_15 : decode b_La_law 15 = .ok (.astore_n 2, 1) := by decide +kernel
theorem d_La_law_16 : decode b_La_law 16 = .ok (.iconst 1, 1) := by decide +kernel
theorem d_La_law_17 : decode b_La_law 17 = .ok (.newarray .long, 2) := by decide +kernel
theorem d_La_law_19 : decode b_La_law 19 = .ok (.astore_n 3, 1) := by decide +kernel
theorem d_La_law_20 : decode b_La_law 20 = .ok (.iconst 0, 1) := by decide +kernel
theorem d_La_law_21 : decode b_La_law 21 = .ok (.istore 4, 2) := by decide +kernel
theorem d_La_law_23 : decode b_La_law 23 = .ok (.iload 4, 2) := by decide +kernel
theorem d_La_law_25 : decode b_La_law 25 = .ok (.aload_n 0, 1) := by decide +kernel
theorem d_La_law_26 : decode b_La_law 26 = .ok (.arraylength, 1) := by decide +kernel
theorem d_La_law_27 : decode b_La_law 27 = .ok (.iconst 5, 1) := by decide +kernel
theorem d_La_law_28 : decode b_La_law 28 = .ok (.isub, 1) := by decide +kernel
theorem d_La_law_29 : decode b_La_law 29 = .ok (.if_icmp .gt 777, 3) := by decide +kernel
theorem d_La_law_32 : decode b_La_law 32 = .ok (.aload_n 0, 1) := by decide +kernel
theorem d_La_law_33 : decode b_La_law 33 = .ok (.iload 4, 2) := by decide +kernel
theorem d_La_law_35 : decode b_La_law 35 = .ok (.iaload, 1) := by decide +kernel
theorem d_La_law_36 : decode b_La_law 36 = .ok (.bipush 31, 2) := by decide +kernel
theorem d_La_law_38 : decode b_La_law 38 = .ok (.iand, 1) := by decide +kernel
theorem d_La_law_39 : decode b_La_law 39 = .ok (.tableswitch 761 0 17 #[85, 125, 189, 254, 279, 331, 371, 411, 439, 479, 519, 544, 572, 612, 652, 692, 720, 736], 85) := by decide +kernel
theorem d_La_law_124 : decode b_La_law 124 = .ok (.aload_n 1, 1) := by decide +kernel
theorem d_La_law_125 : decode b_La_law 125 = .ok (.aload_n 0, 1) := by decide +kernel
theorem d_La_law_126 : decode b_La_law 126 = .ok (.iload 4, 2) := by decide +kernel
theorem d_La_law_128 : decode b_La_law 128 = .ok (.iconst 1, 1) := by decide +kernel
theorem d_La_law_129 : decode b_La_law 129 = .ok (.iadd, 1) := by decide +kernel
theorem d_La_law_130 : decode b_La_law 130 = .ok (.iaload, 1) := by decide +kernel
theorem d_La_law_131 : decode b_La_law 131 = .ok (.aload_n 0, 1) := by decide +kernel
theorem d_La_law_132 : decode b_La_law 132 = .ok (.iload 4, 2) := by decide +kernel
theorem d_La_law_134 : decode b_La_law 134 = .ok (.iconst 2, 1) := by decide +kernel
theorem d_La_law_135 : decode b_La_law 135 = .ok (.iadd, 1) := by decide +kernel
theorem d_La_law_136 : decode b_La_law 136 = .ok (.iaload, 1) := by decide +kernel
theorem d_La_law_137 : decode b_La_law 137 = .ok (.aload_n 3, 1) := by decide +kernel
theorem d_La_law_138 : decode b_La_law 138 = .ok (.invokestatic 81, 3) := by decide +kernel
theorem d_La_law_141 : decode b_La_law 141 = .ok (.istore 5, 2) := by decide +kernel
theorem d_La_law_143 : decode b_La_law 143 = .ok (.aload_n 2, 1) := by decide +kernel
theorem d_La_law_144 : decode b_La_law 144 = .ok (.aload_n 0, 1) := by decide +kernel
theorem d_La_law_145 : decode b_La_law 145 = .ok (.iload 4, 2) := by decide +kernel
theorem d_La_law_147 : decode b_La_law 147 = .ok (.iconst 1, 1) := by decide +kernel
theorem d_La_law_148 : decode b_La_law 148 = .ok (.iadd, 1) := by decide +kernel
theorem d_La_law_149 : decode b_La_law 149 = .ok (.iaload, 1) := by decide +kernel
theorem d_La_law_150 : decode b_La_law 150 = .ok (.aload_n 0, 1) := by decide +kernel
theorem d_La_law_151 : decode b_La_law 151 = .ok (.iload 4, 2) := by decide +kernel
theorem d_La_law_153 : decode b_La_law 153 = .ok (.iconst 2, 1) := by decide +kernel
theorem d_La_law_154 : decode b_La_law 154 = .ok (.iadd, 1) := by decide +kernel
theorem d_La_law_155 : decode b_La_law 155 = .ok (.iaload, 1) := by decide +kernel
theorem d_La_law_156 : decode b_La_law 156 = .ok (.invokevirtual 86, 3) := by decide +kernel
theorem d_La_law_159 : decode b_La_law 159 = .ok (.istore 6, 2) := by decide +kernel
theorem d_La_law_161 : decode b_La_law 161 = .ok (.goto 639, 3) := by decide +kernel
theorem d_La_law_164 : decode b_La_law 164 = .ok (.aload_n 1, 1) := by decide +kernel
theorem d_La_law_165 : decode b_La_law 165 = .ok (.aload_n 0, 1) := by decide +kernel
theorem d_La_law_166 : decode b_La_law 166 = .ok (.iload 4, 2) := by decide +kernel
theorem d_La_law_168 : decode b_La_law 168 = .ok (.iconst 1, 1) := by decide +kernel
theorem d_La_law_169 : decode b_La_law 169 = .ok (.iadd, 1) := by decide +kernel
theorem d_La_law_170 : decode b_La_law 170 = .ok (.iaload, 1) := by decide +kernel
theorem d_La_law_171 : decode b_La_law 171 = .ok (.aload_n 0, 1) := by decide +kernel
theorem d_La_law_172 : decode b_La_law 172 = .ok (.iload 4, 2) := by decide +kernel
theorem d_La_law_174 : decode b_La_law 174 = .ok (.iconst 2, 1) := by decide +kernel
theorem d_La_law_175 : decode b_La_law 175 = .ok (.iadd, 1) := by decide +kernel
theorem d_La_law_176 : decode b_La_law 176 = .ok (.iaload, 1) := by decide +kernel
theorem d_La_law_177 : decode b_La_law 177 = .ok (.aload_n 0, 1) := by decide +kernel
theorem d_La_law_178 : decode b_La_law 178 = .ok (.iload 4, 2) := by decide +kernel
theorem d_La_law_180 : decode b_La_law 180 = .ok (.iconst 3, 1) := by decide +kernel
theorem d_La_law_181 : decode b_La_law 181 = .ok (.iadd, 1) := by decide +kernel
theorem d_La_law_182 : decode b_La_law 182 = .ok (.iaload, 1) := by decide +kernel
theorem d_La_law_183 : decode b_La_law 183 = .ok (.aload_n 0, 1) := by decide +kernel
theorem d_La_law_184 : decode b_La_law 184 = .ok (.iload 4, 2) := by decide +kernel
theorem d_La_law_186 : decode b_La_law 186 = .ok (.iconst 4, 1) := by decide +kernel
theorem d_La_law_187 : decode b_La_law 187 = .ok (.iadd, 1) := by decide +kernel
theorem d_La_law_188 : decode b_La_law 188 = .ok (.iaload, 1) := by decide +kernel
theorem d_La_law_189 : decode b_La_law 189 = .ok (.aload_n 3, 1) := by decide +kernel
theorem d_La_law_190 : decode b_La_law 190 = .ok (.invokestatic 87, 3) := by decide +kernel
theorem d_La_law_193 : decode b_La_law 193 = .ok (.istore 5, 2) := by decide +kernel
theorem d_La_law_195 : decode b_La_law 195 = .ok (.aload_n 2, 1) := by decide +kernel
theorem d_La_law_196 : decode b_La_law 196 = .ok (.aload_n 0, 1) := by decide +kernel
theorem d_La_law_197 : decode b_La_law 197 = .ok (.iload 4, 2) := by decide +kernel
theorem d_La_law_199 : decode b_La_law 199 = .ok (.iconst 1, 1) := by decide +kernel
theorem d_La_law_200 : decode b_La_law 200 = .ok (.iadd, 1) := by decide +kernel
theorem d_La_law_201 : decode b_La_law 201 = .ok (.iaload, 1) := by decide +kernel
theorem d_La_law_202 : decode b_La_law 202 = .ok (.aload_n 0, 1) := by decide +kernel
theorem d_La_law_203 : decode b_La_law 203 = .ok (.iload 4, 2) := by decide +kernel
theorem d_La_law_205 : decode b_La_law 205 = .ok (.iconst 2, 1) := by decide +kernel
theorem d_La_law_206 : decode b_La_law 206 = .ok (.iadd, 1) := by decide +kernel
theorem d_La_law_207 : decode b_La_law 207 = .ok (.iaload, 1) := by decide +kernel
theorem d_La_law_208 : decode b_La_law 208 = .ok (.aload_n 0, 1) := by decide +kernel
theorem d_La_law_209 : decode b_La_law 209 = .ok (.iload 4, 2) := by decide +kernel
theorem d_La_law_211 : decode b_La_law 211 = .ok (.iconst 3, 1) := by decide +kernel
theorem d_La_law_212 : decode b_La_law 212 = .ok (.iadd, 1) := by decide +kernel
theorem d_La_law_213 : decode b_La_law 213 = .ok (.iaload, 1) := by decide +kernel
theorem d_La_law_214 : decode b_La_law 214 = .ok (.aload_n 0, 1) := by decide +kernel
theorem d_La_law_215 : decode b_La_law 215 = .ok (.iload 4, 2) := by decide +kernel
theorem d_La_law_217 : decode b_La_law 217 = .ok (.iconst 4, 1) := by decide +kernel
theorem d_La_law_218 : decode b_La_law 218 = .ok (.iadd, 1) := by decide +kernel
theorem d_La_law_219 : decode b_La_law 219 = .ok (.iaload, 1) := by decide +kernel
theorem d_La_law_220 : decode b_La_law 220 = .ok (.invokevirtual 90, 3) := by decide +kernel
theorem d_La_law_223 : decode b_La_law 223 = .ok (.istore 6, 2) := by decide +kernel
theorem d_La_law_225 : decode b_La_law 225 = .ok (.goto 575, 3) := by decide +kernel
theorem d_La_law_228 : decode b_La_law 228 = .ok (.aload_n 1, 1) := by decide +kernel
theorem d_La_law_229 : decode b_La_law 229 = .ok (.aload_n 0, 1) := by decide +kernel
theorem d_La_law_230 : decode b_La_law 230 = .ok (.iload 4, 2) := by decide +kernel
theorem d_La_law_232 : decode b_La_law 232 = .ok (.iconst 1, 1) := by decide +kernel
theorem d_La_law_233 : decode b_La_law 233 = .ok (.iadd, 1) := by decide +kernel
theorem d_La_law_234 : decode b_La_law 234 = .ok (.iaload, 1) := by decide +kernel
theorem d_La_law_235 : decode b_La_law 235 = .ok (.aload_n 0, 1) := by decide +kernel
theorem d_La_law_236 : decode b_La_law 236 = .ok (.iload 4, 2) := by decide +kernel
theorem d_La_law_238 : decode b_La_law 238 = .ok (.iconst 2, 1) := by decide +kernel
theorem d_La_law_239 : decode b_La_law 239 = .ok (.iadd, 1) := by decide +kernel
theorem d_La_law_240 : decode b_La_law 240 = .ok (.iaload, 1) := by decide +kernel
theorem d_La_law_241 : decode b_La_law 241 = .ok (.aload_n 0, 1) := by decide +kernel
theorem d_La_law_242 : decode b_La_law 242 = .ok (.iload 4, 2) := by decide +kernel
theorem d_La_law_244 : decode b_La_law 244 = .ok (.iconst 3, 1) := by decide +kernel
theorem d_La_law_245 : decode b_La_law 245 = .ok (.iadd, 1) := by decide +kernel
theorem d_La_law_246 : decode b_La_law 246 = .ok (.iaload, 1) := by decide +kernel
theorem d_La_law_247 : decode b_La_law 247 = .ok (.ifCond .eq 7, 3) := by decide +kernel
theorem d_La_law_250 : decode b_La_law 250 = .ok (.iconst 1, 1) := by decide +kernel
theorem d_La_law_251 : decode b_La_law 251 = .ok (.goto 4, 3) := by decide +kernel
theorem d_La_law_254 : decode b_La_law 254 = .ok (.iconst 0, 1) := by decide +kernel
theorem d_La_law_255 : decode b_La_law 255 = .ok (.invokestatic 91, 3) := by decide +kernel
theorem d_La_law_258 : decode b_La_law 258 = .ok (.istore 5, 2) := by decide +kernel
theorem d_La_law_260 : decode b_La_law 260 = .ok (.aload_n 2, 1) := by decide +kernel
theorem d_La_law_261 : decode b_La_law 261 = .ok (.aload_n 0, 1) := by decide +kernel
theorem d_La_law_262 : decode b_La_law 262 = .ok (.iload 4, 2) := by decide +kernel
theorem d_La_law_264 : decode b_La_law 264 = .ok (.iconst 1, 1) := by decide +kernel
theorem d_La_law_265 : decode b_La_law 265 = .ok (.iadd, 1) := by decide +kernel
theorem d_La_law_266 : decode b_La_law 266 = .ok (.iaload, 1) := by decide +kernel
theorem d_La_law_267 : decode b_La_law 267 = .ok (.aload_n 0, 1) := by decide +kernel
theorem d_La_law_268 : decode b_La_law 268 = .ok (.iload 4, 2) := by decide +kernel
theorem d_La_law_270 : decode b_La_law 270 = .ok (.iconst 2, 1) := by decide +kernel
theorem d_La_law_271 : decode b_La_law 271 = .ok (.iadd, 1) := by decide +kernel
theorem d_La_law_272 : decode b_La_law 272 = .ok (.iaload, 1) := by decide +kernel
theorem d_La_law_273 : decode b_La_law 273 = .ok (.aload_n 0, 1) := by decide +kernel
theorem d_La_law_274 : decode b_La_law 274 = .ok (.iload 4, 2) := by decide +kernel
theorem d_La_law_276 : decode b_La_law 276 = .ok (.iconst 3, 1) := by decide +kernel
theorem d_La_law_277 : decode b_La_law 277 = .ok (.iadd, 1) := by decide +kernel
theorem d_La_law_278 : decode b_La_law 278 = .ok (.iaload, 1) := by decide +kernel
theorem d_La_law_279 : decode b_La_law 279 = .ok (.ifCond .eq 7, 3) := by decide +kernel
theorem d_La_law_282 : decode b_La_law 282 = .ok (.iconst 1, 1) := by decide +kernel
theorem d_La_law_283 : decode b_La_law 283 = .ok (.goto 4, 3) := by decide +kernel
theorem d_La_law_286 : decode b_La_law 286 = .ok (.iconst 0, 1) := by decide +kernel
theorem d_La_law_287 : decode b_La_law 287 = .ok (.invokevirtual 94, 3) := by decide +kernel
theorem d_La_law_290 : decode b_La_law 290 = .ok (.goto 510, 3) := by decide +kernel
theorem d_La_law_293 : decode b_La_law 293 = .ok (.aload_n 1, 1) := by decide +kernel
theorem d_La_law_294 : decode b_La_law 294 = .ok (.aload_n 0, 1) := by decide +kernel
theorem d_La_law_295 : decode b_La_law 295 = .ok (.iload 4, 2) := by decide +kernel
theorem d_La_law_297 : decode b_La_law 297 = .ok (.iconst 1, 1) := by decide +kernel
theorem d_La_law_298 : decode b_La_law 298 = .ok (.iadd, 1) := by decide +kernel
theorem d_La_law_299 : decode b_La_law 299 = .ok (.iaload, 1) := by decide +kernel
theorem d_La_law_300 : decode b_La_law 300 = .ok (.invokestatic 95, 3) := by decide +kernel
theorem d_La_law_303 : decode b_La_law 303 = .ok (.istore 5, 2) := by decide +kernel
theorem d_La_law_305 : decode b_La_law 305 = .ok (.aload_n 2, 1) := by decide +kernel
theorem d_La_law_306 : decode b_La_law 306 = .ok (.aload_n 0, 1) := by decide +kernel
theorem d_La_law_307 : decode b_La_law 307 = .ok (.iload 4, 2) := by decide +kernel
theorem d_La_law_309 : decode b_La_law 309 = .ok (.iconst 1, 1) := by decide +kernel
theorem d_La_law_310 : decode b_La_law 310 = .ok (.iadd, 1) := by decide +kernel
theorem d_La_law_311 : decode b_La_law 311 = .ok (.iaload, 1) := by decide +kernel
theorem d_La_law_312 : decode b_La_law 312 = .ok (.invokevirtual 98, 3) := by decide +kernel
theorem d_La_law_315 : decode b_La_law 315 = .ok (.goto 485, 3) := by decide +kernel
theorem d_La_law_318 : decode b_La_law 318 = .ok (.aload_n 1, 1) := by decide +kernel
theorem d_La_law_319 : decode b_La_law 319 = .ok (.aload_n 0, 1) := by decide +kernel
theorem d_La_law_320 : decode b_La_law 320 = .ok (.iload 4, 2) := by decide +kernel
theorem d_La_law_322 : decode b_La_law 322 = .ok (.iconst 1, 1) := by decide +kernel
theorem d_La_law_323 : decode b_La_law 323 = .ok (.iadd, 1) := by decide +kernel
theorem d_La_law_324 : decode b_La_law 324 = .ok (.iaload, 1) := by decide +kernel
theorem d_La_law_325 : decode b_La_law 325 = .ok (.aload_n 0, 1) := by decide +kernel
theorem d_La_law_326 : decode b_La_law 326 = .ok (.iload 4, 2) := by decide +kernel
theorem d_La_law_328 : decode b_La_law 328 = .ok (.iconst 2, 1) := by decide +kernel
theorem d_La_law_329 : decode b_La_law 329 = .ok (.iadd, 1) := by decide +kernel
theorem d_La_law_330 : decode b_La_law 330 = .ok (.iaload, 1) := by decide +kernel
theorem d_La_law_331 : decode b_La_law 331 = .ok (.aload_n 0, 1) := by decide +kernel
theorem d_La_law_332 : decode b_La_law 332 = .ok (.iload 4, 2) := by decide +kernel
theorem d_La_law_334 : decode b_La_law 334 = .ok (.iconst 3, 1) := by decide +kernel
theorem d_La_law_335 : decode b_La_law 335 = .ok (.iadd, 1) := by decide +kernel
theorem d_La_law_336 : decode b_La_law 336 = .ok (.iaload, 1) := by decide +kernel
theorem d_La_law_337 : decode b_La_law 337 = .ok (.aload_n 3, 1) := by decide +kernel
theorem d_La_law_338 : decode b_La_law 338 = .ok (.invokestatic 99, 3) := by decide +kernel
theorem d_La_law_341 : decode b_La_law 341 = .ok (.istore 5, 2) := by decide +kernel
theorem d_La_law_343 : decode b_La_law 343 = .ok (.aload_n 2, 1) := by decide +kernel
theorem d_La_law_344 : decode b_La_law 344 = .ok (.aload_n 0, 1) := by decide +kernel
theorem d_La_law_345 : decode b_La_law 345 = .ok (.iload 4, 2) := by decide +kernel
theorem d_La_law_347 : decode b_La_law 347 = .ok (.iconst 1, 1) := by decide +kernel
theorem d_La_law_348 : decode b_La_law 348 = .ok (.iadd, 1) := by decide +kernel
theorem d_La_law_349 : decode b_La_law 349 = .ok (.iaload, 1) := by decide +kernel
theorem d_La_law_350 : decode b_La_law 350 = .ok (.aload_n 0, 1) := by decide +kernel
theorem d_La_law_351 : decode b_La_law 351 = .ok (.iload 4, 2) := by decide +kernel
theorem d_La_law_353 : decode b_La_law 353 = .ok (.iconst 2, 1) := by decide +kernel
theorem d_La_law_354 : decode b_La_law 354 = .ok (.iadd, 1) := by decide +kernel
theorem d_La_law_355 : decode b_La_law 355 = .ok (.iaload, 1) := by decide +kernel
theorem d_La_law_356 : decode b_La_law 356 = .ok (.aload_n 0, 1) := by decide +kernel
theorem d_La_law_357 : decode b_La_law 357 = .ok (.iload 4, 2) := by decide +kernel
theorem d_La_law_359 : decode b_La_law 359 = .ok (.iconst 3, 1) := by decide +kernel
theorem d_La_law_360 : decode b_La_law 360 = .ok (.iadd, 1) := by decide +kernel
theorem d_La_law_361 : decode b_La_law 361 = .ok (.iaload, 1) := by decide +kernel
theorem d_La_law_362 : decode b_La_law 362 = .ok (.invokevirtual 102, 3) := by decide +kernel
theorem d_La_law_365 : decode b_La_law 365 = .ok (.istore 6, 2) := by decide +kernel
theorem d_La_law_367 : decode b_La_law 367 = .ok (.goto 433, 3) := by decide +kernel
theorem d_La_law_370 : decode b_La_law 370 = .ok (.aload_n 1, 1) := by decide +kernel
theorem d_La_law_371 : decode b_La_law 371 = .ok (.aload_n 0, 1) := by decide +kernel
theorem d_La_law_372 : decode b_La_law 372 = .ok (.iload 4, 2) := by decide +kernel
theorem d_La_law_374 : decode b_La_law 374 = .ok (.iconst 1, 1) := by decide +kernel
theorem d_La_law_375 : decode b_La_law 375 = .ok (.iadd, 1) := by decide +kernel
theorem d_La_law_376 : decode b_La_law 376 = .ok (.iaload, 1) := by decide +kernel
theorem d_La_law_377 : decode b_La_law 377 = .ok (.aload_n 0, 1) := by decide +kernel
theorem d_La_law_378 : decode b_La_law 378 = .ok (.iload 4, 2) := by decide +kernel
theorem d_La_law_380 : decode b_La_law 380 = .ok (.iconst 2, 1) := by decide +kernel
theorem d_La_law_381 : decode b_La_law 381 = .ok (.iadd, 1) := by decide +kernel
theorem d_La_law_382 : decode b_La_law 382 = .ok (.iaload, 1) := by decide +kernel
theorem d_La_law_383 : decode b_La_law 383 = .ok (.aload_n 3, 1) := by decide +kernel
theorem d_La_law_384 : decode b_La_law 384 = .ok (.invokestatic 103, 3) := by decide +kernel
theorem d_La_law_387 : decode b_La_law 387 = .ok (.istore 5, 2) := by decide +kernel
theorem d_La_law_389 : decode b_La_law 389 = .ok (.aload_n 2, 1) := by decide +kernel
theorem d_La_law_390 : decode b_La_law 390 = .ok (.aload_n 0, 1) := by decide +kernel
theorem d_La_law_391 : decode b_La_law 391 = .ok (.iload 4, 2) := by decide +kernel
theorem d_La_law_393 : decode b_La_law 393 = .ok (.iconst 1, 1) := by decide +kernel
theorem d_La_law_394 : decode b_La_law 394 = .ok (.iadd, 1) := by decide +kernel
theorem d_La_law_395 : decode b_La_law 395 = .ok (.iaload, 1) := by decide +kernel
theorem d_La_law_396 : decode b_La_law 396 = .ok (.aload_n 0, 1) := by decide +kernel
theorem d_La_law_397 : decode b_La_law 397 = .ok (.iload 4, 2) := by decide +kernel
theorem d_La_law_399 : decode b_La_law 399 = .ok (.iconst 2, 1) := by decide +kernel
theorem d_La_law_400 : decode b_La_law 400 = .ok (.iadd, 1) := by decide +kernel
theorem d_La_law_401 : decode b_La_law 401 = .ok (.iaload, 1) := by decide +kernel
theorem d_La_law_402 : decode b_La_law 402 = .ok (.invokevirtual 105, 3) := by decide +kernel
theorem d_La_law_405 : decode b_La_law 405 = .ok (.istore 6, 2) := by decide +kernel
theorem d_La_law_407 : decode b_La_law 407 = .ok (.goto 393, 3) := by decide +kernel
theorem d_La_law_410 : decode b_La_law 410 = .ok (.aload_n 1, 1) := by decide +kernel
theorem d_La_law_411 : decode b_La_law 411 = .ok (.aload_n 0, 1) := by decide +kernel
theorem d_La_law_412 : decode b_La_law 412 = .ok (.iload 4, 2) := by decide +kernel
theorem d_La_law_414 : decode b_La_law 414 = .ok (.iconst 1, 1) := by decide +kernel
theorem d_La_law_415 : decode b_La_law 415 = .ok (.iadd, 1) := by decide +kernel
theorem d_La_law_416 : decode b_La_law 416 = .ok (.iaload, 1) := by decide +kernel
theorem d_La_law_417 : decode b_La_law 417 = .ok (.aload_n 0, 1) := by decide +kernel
theorem d_La_law_418 : decode b_La_law 418 = .ok (.iload 4, 2) := by decide +kernel
theorem d_La_law_420 : decode b_La_law 420 = .ok (.iconst 2, 1) := by decide +kernel
theorem d_La_law_421 : decode b_La_law 421 = .ok (.iadd, 1) := by decide +kernel
theorem d_La_law_422 : decode b_La_law 422 = .ok (.iaload, 1) := by decide +kernel
theorem d_La_law_423 : decode b_La_law 423 = .ok (.aload_n 3, 1) := by decide +kernel
theorem d_La_law_424 : decode b_La_law 424 = .ok (.invokestatic 106, 3) := by decide +kernel
theorem d_La_law_427 : decode b_La_law 427 = .ok (.istore 5, 2) := by decide +kernel
theorem d_La_law_429 : decode b_La_law 429 = .ok (.aload_n 2, 1) := by decide +kernel
theorem d_La_law_430 : decode b_La_law 430 = .ok (.aload_n 0, 1) := by decide +kernel
theorem d_La_law_431 : decode b_La_law 431 = .ok (.iload 4, 2) := by decide +kernel
theorem d_La_law_433 : decode b_La_law 433 = .ok (.iconst 1, 1) := by decide +kernel
theorem d_La_law_434 : decode b_La_law 434 = .ok (.iadd, 1) := by decide +kernel
theorem d_La_law_435 : decode b_La_law 435 = .ok (.iaload, 1) := by decide +kernel
theorem d_La_law_436 : decode b_La_law 436 = .ok (.aload_n 0, 1) := by decide +kernel
theorem d_La_law_437 : decode b_La_law 437 = .ok (.iload 4, 2) := by decide +kernel
theorem d_La_law_439 : decode b_La_law 439 = .ok (.iconst 2, 1) := by decide +kernel
theorem d_La_law_440 : decode b_La_law 440 = .ok (.iadd, 1) := by decide +kernel
theorem d_La_law_441 : decode b_La_law 441 = .ok (.iaload, 1) := by decide +kernel
theorem d_La_law_442 : decode b_La_law 442 = .ok (.invokevirtual 108, 3) := by decide +kernel
theorem d_La_law_445 : decode b_La_law 445 = .ok (.istore 6, 2) := by decide +kernel
theorem d_La_law_447 : decode b_La_law 447 = .ok (.goto 353, 3) := by decide +kernel
theorem d_La_law_450 : decode b_La_law 450 = .ok (.aload_n 1, 1) := by decide +kernel
theorem d_La_law_451 : decode b_La_law 451 = .ok (.aload_n 0, 1) := by decide +kernel
theorem d_La_law_452 : decode b_La_law 452 = .ok (.iload 4, 2) := by decide +kernel
theorem d_La_law_454 : decode b_La_law 454 = .ok (.iconst 1, 1) := by decide +kernel
theorem d_La_law_455 : decode b_La_law 455 = .ok (.iadd, 1) := by decide +kernel
theorem d_La_law_456 : decode b_La_law 456 = .ok (.iaload, 1) := by decide +kernel
theorem d_La_law_457 : decode b_La_law 457 = .ok (.aload_n 3, 1) := by decide +kernel
theorem d_La_law_458 : decode b_La_law 458 = .ok (.invokestatic 109, 3) := by decide +kernel
theorem d_La_law_461 : decode b_La_law 461 = .ok (.istore 5, 2) := by decide +kernel
theorem d_La_law_463 : decode b_La_law 463 = .ok (.aload_n 2, 1) := by decide +kernel
theorem d_La_law_464 : decode b_La_law 464 = .ok (.aload_n 0, 1) := by decide +kernel
theorem d_La_law_465 : decode b_La_law 465 = .ok (.iload 4, 2) := by decide +kernel
theorem d_La_law_467 : decode b_La_law 467 = .ok (.iconst 1, 1) := by decide +kernel
theorem d_La_law_468 : decode b_La_law 468 = .ok (.iadd, 1) := by decide +kernel
theorem d_La_law_469 : decode b_La_law 469 = .ok (.iaload, 1) := by decide +kernel
theorem d_La_law_470 : decode b_La_law 470 = .ok (.invokevirtual 112, 3) := by decide +kernel
theorem d_La_law_473 : decode b_La_law 473 = .ok (.istore 6, 2) := by decide +kernel
theorem d_La_law_475 : decode b_La_law 475 = .ok (.goto 325, 3) := by decide +kernel
theorem d_La_law_478 : decode b_La_law 478 = .ok (.aload_n 1, 1) := by decide +kernel
theorem d_La_law_479 : decode b_La_law 479 = .ok (.aload_n 0, 1) := by decide +kernel
theorem d_La_law_480 : decode b_La_law 480 = .ok (.iload 4, 2) := by decide +kernel
theorem d_La_law_482 : decode b_La_law 482 = .ok (.iconst 1, 1) := by decide +kernel
theorem d_La_law_483 : decode b_La_law 483 = .ok (.iadd, 1) := by decide +kernel
theorem d_La_law_484 : decode b_La_law 484 = .ok (.iaload, 1) := by decide +kernel
theorem d_La_law_485 : decode b_La_law 485 = .ok (.aload_n 0, 1) := by decide +kernel
theorem d_La_law_486 : decode b_La_law 486 = .ok (.iload 4, 2) := by decide +kernel
theorem d_La_law_488 : decode b_La_law 488 = .ok (.iconst 2, 1) := by decide +kernel
theorem d_La_law_489 : decode b_La_law 489 = .ok (.iadd, 1) := by decide +kernel
theorem d_La_law_490 : decode b_La_law 490 = .ok (.iaload, 1) := by decide +kernel
theorem d_La_law_491 : decode b_La_law 491 = .ok (.aload_n 3, 1) := by decide +kernel
theorem d_La_law_492 : decode b_La_law 492 = .ok (.invokestatic 113, 3) := by decide +kernel
theorem d_La_law_495 : decode b_La_law 495 = .ok (.istore 5, 2) := by decide +kernel
theorem d_La_law_497 : decode b_La_law 497 = .ok (.aload_n 2, 1) := by decide +kernel
theorem d_La_law_498 : decode b_La_law 498 = .ok (.aload_n 0, 1) := by decide +kernel
theorem d_La_law_499 : decode b_La_law 499 = .ok (.iload 4, 2) := by decide +kernel
theorem d_La_law_501 : decode b_La_law 501 = .ok (.iconst 1, 1) := by decide +kernel
theorem d_La_law_502 : decode b_La_law 502 = .ok (.iadd, 1) := by decide +kernel
theorem d_La_law_503 : decode b_La_law 503 = .ok (.iaload, 1) := by decide +kernel
theorem d_La_law_504 : decode b_La_law 504 = .ok (.aload_n 0, 1) := by decide +kernel
theorem d_La_law_505 : decode b_La_law 505 = .ok (.iload 4, 2) := by decide +kernel
theorem d_La_law_507 : decode b_La_law 507 = .ok (.iconst 2, 1) := by decide +kernel
theorem d_La_law_508 : decode b_La_law 508 = .ok (.iadd, 1) := by decide +kernel
theorem d_La_law_509 : decode b_La_law 509 = .ok (.iaload, 1) := by decide +kernel
theorem d_La_law_510 : decode b_La_law 510 = .ok (.invokevirtual 115, 3) := by decide +kernel
theorem d_La_law_513 : decode b_La_law 513 = .ok (.istore 6, 2) := by decide +kernel
theorem d_La_law_515 : decode b_La_law 515 = .ok (.goto 285, 3) := by decide +kernel
theorem d_La_law_518 : decode b_La_law 518 = .ok (.aload_n 1, 1) := by decide +kernel
theorem d_La_law_519 : decode b_La_law 519 = .ok (.aload_n 0, 1) := by decide +kernel
theorem d_La_law_520 : decode b_La_law 520 = .ok (.iload 4, 2) := by decide +kernel
theorem d_La_law_522 : decode b_La_law 522 = .ok (.iconst 1, 1) := by decide +kernel
theorem d_La_law_523 : decode b_La_law 523 = .ok (.iadd, 1) := by decide +kernel
theorem d_La_law_524 : decode b_La_law 524 = .ok (.iaload, 1) := by decide +kernel
theorem d_La_law_525 : decode b_La_law 525 = .ok (.aload_n 0, 1) := by decide +kernel
theorem d_La_law_526 : decode b_La_law 526 = .ok (.iload 4, 2) := by decide +kernel
theorem d_La_law_528 : decode b_La_law 528 = .ok (.iconst 2, 1) := by decide +kernel
theorem d_La_law_529 : decode b_La_law 529 = .ok (.iadd, 1) := by decide +kernel
theorem d_La_law_530 : decode b_La_law 530 = .ok (.iaload, 1) := by decide +kernel
theorem d_La_law_531 : decode b_La_law 531 = .ok (.aload_n 3, 1) := by decide +kernel
theorem d_La_law_532 : decode b_La_law 532 = .ok (.invokestatic 116, 3) := by decide +kernel
theorem d_La_law_535 : decode b_La_law 535 = .ok (.istore 5, 2) := by decide +kernel
theorem d_La_law_537 : decode b_La_law 537 = .ok (.aload_n 2, 1) := by decide +kernel
theorem d_La_law_538 : decode b_La_law 538 = .ok (.aload_n 0, 1) := by decide +kernel
theorem d_La_law_539 : decode b_La_law 539 = .ok (.iload 4, 2) := by decide +kernel
theorem d_La_law_541 : decode b_La_law 541 = .ok (.iconst 1, 1) := by decide +kernel
theorem d_La_law_542 : decode b_La_law 542 = .ok (.iadd, 1) := by decide +kernel
theorem d_La_law_543 : decode b_La_law 543 = .ok (.iaload, 1) := by decide +kernel
theorem d_La_law_544 : decode b_La_law 544 = .ok (.aload_n 0, 1) := by decide +kernel
theorem d_La_law_545 : decode b_La_law 545 = .ok (.iload 4, 2) := by decide +kernel
theorem d_La_law_547 : decode b_La_law 547 = .ok (.iconst 2, 1) := by decide +kernel
theorem d_La_law_548 : decode b_La_law 548 = .ok (.iadd, 1) := by decide +kernel
theorem d_La_law_549 : decode b_La_law 549 = .ok (.iaload, 1) := by decide +kernel
theorem d_La_law_550 : decode b_La_law 550 = .ok (.invokevirtual 118, 3) := by decide +kernel
theorem d_La_law_553 : decode b_La_law 553 = .ok (.istore 6, 2) := by decide +kernel
theorem d_La_law_555 : decode b_La_law 555 = .ok (.goto 245, 3) := by decide +kernel
theorem d_La_law_558 : decode b_La_law 558 = .ok (.aload_n 1, 1) := by decide +kernel
theorem d_La_law_559 : decode b_La_law 559 = .ok (.aload_n 0, 1) := by decide +kernel
theorem d_La_law_560 : decode b_La_law 560 = .ok (.iload 4, 2) := by decide +kernel
theorem d_La_law_562 : decode b_La_law 562 = .ok (.iconst 1, 1) := by decide +kernel
theorem d_La_law_563 : decode b_La_law 563 = .ok (.iadd, 1) := by decide +kernel
theorem d_La_law_564 : decode b_La_law 564 = .ok (.iaload, 1) := by decide +kernel
theorem d_La_law_565 : decode b_La_law 565 = .ok (.invokestatic 119, 3) := by decide +kernel
theorem d_La_law_568 : decode b_La_law 568 = .ok (.istore 5, 2) := by decide +kernel
theorem d_La_law_570 : decode b_La_law 570 = .ok (.aload_n 2, 1) := by decide +kernel
theorem d_La_law_571 : decode b_La_law 571 = .ok (.aload_n 0, 1) := by decide +kernel
theorem d_La_law_572 : decode b_La_law 572 = .ok (.iload 4, 2) := by decide +kernel
theorem d_La_law_574 : decode b_La_law 574 = .ok (.iconst 1, 1) := by decide +kernel
theorem d_La_law_575 : decode b_La_law 575 = .ok (.iadd, 1) := by decide +kernel
theorem d_La_law_576 : decode b_La_law 576 = .ok (.iaload, 1) := by decide +kernel
theorem d_La_law_577 : decode b_La_law 577 = .ok (.invokevirtual 121, 3) := by decide +kernel
theorem d_La_law_580 : decode b_La_law 580 = .ok (.goto 220, 3) := by decide +kernel
theorem d_La_law_583 : decode b_La_law 583 = .ok (.aload_n 1, 1) := by decide +kernel
theorem d_La_law_584 : decode b_La_law 584 = .ok (.aload_n 0, 1) := by decide +kernel
theorem d_La_law_585 : decode b_La_law 585 = .ok (.iload 4, 2) := by decide +kernel
theorem d_La_law_587 : decode b_La_law 587 = .ok (.iconst 1, 1) := by decide +kernel
theorem d_La_law_588 : decode b_La_law 588 = .ok (.iadd, 1) := by decide +kernel
theorem d_La_law_589 : decode b_La_law 589 = .ok (.iaload, 1) := by decide +kernel
theorem d_La_law_590 : decode b_La_law 590 = .ok (.aload_n 3, 1) := by decide +kernel
theorem d_La_law_591 : decode b_La_law 591 = .ok (.invokestatic 122, 3) := by decide +kernel
theorem d_La_law_594 : decode b_La_law 594 = .ok (.istore 5, 2) := by decide +kernel
theorem d_La_law_596 : decode b_La_law 596 = .ok (.aload_n 2, 1) := by decide +kernel
theorem d_La_law_597 : decode b_La_law 597 = .ok (.aload_n 0, 1) := by decide +kernel
theorem d_La_law_598 : decode b_La_law 598 = .ok (.iload 4, 2) := by decide +kernel
theorem d_La_law_600 : decode b_La_law 600 = .ok (.iconst 1, 1) := by decide +kernel
theorem d_La_law_601 : decode b_La_law 601 = .ok (.iadd, 1) := by decide +kernel
theorem d_La_law_602 : decode b_La_law 602 = .ok (.iaload, 1) := by decide +kernel
theorem d_La_law_603 : decode b_La_law 603 = .ok (.invokevirtual 124, 3) := by decide +kernel
theorem d_La_law_606 : decode b_La_law 606 = .ok (.istore 6, 2) := by decide +kernel
theorem d_La_law_608 : decode b_La_law 608 = .ok (.goto 192, 3) := by decide +kernel
theorem d_La_law_611 : decode b_La_law 611 = .ok (.aload_n 1, 1) := by decide +kernel
theorem d_La_law_612 : decode b_La_law 612 = .ok (.aload_n 0, 1) := by decide +kernel
theorem d_La_law_613 : decode b_La_law 613 = .ok (.iload 4, 2) := by decide +kernel
theorem d_La_law_615 : decode b_La_law 615 = .ok (.iconst 1, 1) := by decide +kernel
theorem d_La_law_616 : decode b_La_law 616 = .ok (.iadd, 1) := by decide +kernel
theorem d_La_law_617 : decode b_La_law 617 = .ok (.iaload, 1) := by decide +kernel
theorem d_La_law_618 : decode b_La_law 618 = .ok (.aload_n 0, 1) := by decide +kernel
theorem d_La_law_619 : decode b_La_law 619 = .ok (.iload 4, 2) := by decide +kernel
theorem d_La_law_621 : decode b_La_law 621 = .ok (.iconst 2, 1) := by decide +kernel
theorem d_La_law_622 : decode b_La_law 622 = .ok (.iadd, 1) := by decide +kernel
theorem d_La_law_623 : decode b_La_law 623 = .ok (.iaload, 1) := by decide +kernel
theorem d_La_law_624 : decode b_La_law 624 = .ok (.aload_n 3, 1) := by decide +kernel
theorem d_La_law_625 : decode b_La_law 625 = .ok (.invokestatic 125, 3) := by decide +kernel
theorem d_La_law_628 : decode b_La_law 628 = .ok (.istore 5, 2) := by decide +kernel
theorem d_La_law_630 : decode b_La_law 630 = .ok (.aload_n 2, 1) := by decide +kernel
theorem d_La_law_631 : decode b_La_law 631 = .ok (.aload_n 0, 1) := by decide +kernel
theorem d_La_law_632 : decode b_La_law 632 = .ok (.iload 4, 2) := by decide +kernel
theorem d_La_law_634 : decode b_La_law 634 = .ok (.iconst 1, 1) := by decide +kernel
theorem d_La_law_635 : decode b_La_law 635 = .ok (.iadd, 1) := by decide +kernel
theorem d_La_law_636 : decode b_La_law 636 = .ok (.iaload, 1) := by decide +kernel
theorem d_La_law_637 : decode b_La_law 637 = .ok (.aload_n 0, 1) := by decide +kernel
theorem d_La_law_638 : decode b_La_law 638 = .ok (.iload 4, 2) := by decide +kernel
theorem d_La_law_640 : decode b_La_law 640 = .ok (.iconst 2, 1) := by decide +kernel
theorem d_La_law_641 : decode b_La_law 641 = .ok (.iadd, 1) := by decide +kernel
theorem d_La_law_642 : decode b_La_law 642 = .ok (.iaload, 1) := by decide +kernel
theorem d_La_law_643 : decode b_La_law 643 = .ok (.invokevirtual 127, 3) := by decide +kernel
theorem d_La_law_646 : decode b_La_law 646 = .ok (.istore 6, 2) := by decide +kernel
theorem d_La_law_648 : decode b_La_law 648 = .ok (.goto 152, 3) := by decide +kernel
theorem d_La_law_651 : decode b_La_law 651 = .ok (.aload_n 1, 1) := by decide +kernel
theorem d_La_law_652 : decode b_La_law 652 = .ok (.aload_n 0, 1) := by decide +kernel
theorem d_La_law_653 : decode b_La_law 653 = .ok (.iload 4, 2) := by decide +kernel
theorem d_La_law_655 : decode b_La_law 655 = .ok (.iconst 1, 1) := by decide +kernel
theorem d_La_law_656 : decode b_La_law 656 = .ok (.iadd, 1) := by decide +kernel
theorem d_La_law_657 : decode b_La_law 657 = .ok (.iaload, 1) := by decide +kernel
theorem d_La_law_658 : decode b_La_law 658 = .ok (.aload_n 0, 1) := by decide +kernel
theorem d_La_law_659 : decode b_La_law 659 = .ok (.iload 4, 2) := by decide +kernel
theorem d_La_law_661 : decode b_La_law 661 = .ok (.iconst 2, 1) := by decide +kernel
theorem d_La_law_662 : decode b_La_law 662 = .ok (.iadd, 1) := by decide +kernel
theorem d_La_law_663 : decode b_La_law 663 = .ok (.iaload, 1) := by decide +kernel
theorem d_La_law_664 : decode b_La_law 664 = .ok (.aload_n 3, 1) := by decide +kernel
theorem d_La_law_665 : decode b_La_law 665 = .ok (.invokestatic 128, 3) := by decide +kernel
theorem d_La_law_668 : decode b_La_law 668 = .ok (.istore 5, 2) := by decide +kernel
theorem d_La_law_670 : decode b_La_law 670 = .ok (.aload_n 2, 1) := by decide +kernel
theorem d_La_law_671 : decode b_La_law 671 = .ok (.aload_n 0, 1) := by decide +kernel
theorem d_La_law_672 : decode b_La_law 672 = .ok (.iload 4, 2) := by decide +kernel
theorem d_La_law_674 : decode b_La_law 674 = .ok (.iconst 1, 1) := by decide +kernel
theorem d_La_law_675 : decode b_La_law 675 = .ok (.iadd, 1) := by decide +kernel
theorem d_La_law_676 : decode b_La_law 676 = .ok (.iaload, 1) := by decide +kernel
theorem d_La_law_677 : decode b_La_law 677 = .ok (.aload_n 0, 1) := by decide +kernel
theorem d_La_law_678 : decode b_La_law 678 = .ok (.iload 4, 2) := by decide +kernel
theorem d_La_law_680 : decode b_La_law 680 = .ok (.iconst 2, 1) := by decide +kernel
theorem d_La_law_681 : decode b_La_law 681 = .ok (.iadd, 1) := by decide +kernel
theorem d_La_law_682 : decode b_La_law 682 = .ok (.iaload, 1) := by decide +kernel
theorem d_La_law_683 : decode b_La_law 683 = .ok (.invokevirtual 130, 3) := by decide +kernel
theorem d_La_law_686 : decode b_La_law 686 = .ok (.istore 6, 2) := by decide +kernel
theorem d_La_law_688 : decode b_La_law 688 = .ok (.goto 112, 3) := by decide +kernel
theorem d_La_law_691 : decode b_La_law 691 = .ok (.aload_n 1, 1) := by decide +kernel
theorem d_La_law_692 : decode b_La_law 692 = .ok (.aload_n 0, 1) := by decide +kernel
theorem d_La_law_693 : decode b_La_law 693 = .ok (.iload 4, 2) := by decide +kernel
theorem d_La_law_695 : decode b_La_law 695 = .ok (.iconst 1, 1) := by decide +kernel
theorem d_La_law_696 : decode b_La_law 696 = .ok (.iadd, 1) := by decide +kernel
theorem d_La_law_697 : decode b_La_law 697 = .ok (.iaload, 1) := by decide +kernel
theorem d_La_law_698 : decode b_La_law 698 = .ok (.aload_n 0, 1) := by decide +kernel
theorem d_La_law_699 : decode b_La_law 699 = .ok (.iload 4, 2) := by decide +kernel
theorem d_La_law_701 : decode b_La_law 701 = .ok (.iconst 2, 1) := by decide +kernel
theorem d_La_law_702 : decode b_La_law 702 = .ok (.iadd, 1) := by decide +kernel
theorem d_La_law_703 : decode b_La_law 703 = .ok (.iaload, 1) := by decide +kernel
theorem d_La_law_704 : decode b_La_law 704 = .ok (.aload_n 3, 1) := by decide +kernel
theorem d_La_law_705 : decode b_La_law 705 = .ok (.invokestatic 131, 3) := by decide +kernel
theorem d_La_law_708 : decode b_La_law 708 = .ok (.istore 5, 2) := by decide +kernel
theorem d_La_law_710 : decode b_La_law 710 = .ok (.aload_n 2, 1) := by decide +kernel
theorem d_La_law_711 : decode b_La_law 711 = .ok (.aload_n 0, 1) := by decide +kernel
theorem d_La_law_712 : decode b_La_law 712 = .ok (.iload 4, 2) := by decide +kernel
theorem d_La_law_714 : decode b_La_law 714 = .ok (.iconst 1, 1) := by decide +kernel
theorem d_La_law_715 : decode b_La_law 715 = .ok (.iadd, 1) := by decide +kernel
theorem d_La_law_716 : decode b_La_law 716 = .ok (.iaload, 1) := by decide +kernel
theorem d_La_law_717 : decode b_La_law 717 = .ok (.aload_n 0, 1) := by decide +kernel
theorem d_La_law_718 : decode b_La_law 718 = .ok (.iload 4, 2) := by decide +kernel
theorem d_La_law_720 : decode b_La_law 720 = .ok (.iconst 2, 1) := by decide +kernel
theorem d_La_law_721 : decode b_La_law 721 = .ok (.iadd, 1) := by decide +kernel
theorem d_La_law_722 : decode b_La_law 722 = .ok (.iaload, 1) := by decide +kernel
theorem d_La_law_723 : decode b_La_law 723 = .ok (.invokevirtual 133, 3) := by decide +kernel
theorem d_La_law_726 : decode b_La_law 726 = .ok (.istore 6, 2) := by decide +kernel
theorem d_La_law_728 : decode b_La_law 728 = .ok (.goto 72, 3) := by decide +kernel
theorem d_La_law_731 : decode b_La_law 731 = .ok (.aload_n 1, 1) := by decide +kernel
theorem d_La_law_732 : decode b_La_law 732 = .ok (.aload_n 0, 1) := by decide +kernel
theorem d_La_law_733 : decode b_La_law 733 = .ok (.iload 4, 2) := by decide +kernel
theorem d_La_law_735 : decode b_La_law 735 = .ok (.iconst 1, 1) := by decide +kernel
theorem d_La_law_736 : decode b_La_law 736 = .ok (.iadd, 1) := by decide +kernel
theorem d_La_law_737 : decode b_La_law 737 = .ok (.iaload, 1) := by decide +kernel
theorem d_La_law_738 : decode b_La_law 738 = .ok (.aload_n 3, 1) := by decide +kernel
theorem d_La_law_739 : decode b_La_law 739 = .ok (.invokestatic 134, 3) := by decide +kernel
theorem d_La_law_742 : decode b_La_law 742 = .ok (.istore 5, 2) := by decide +kernel
theorem d_La_law_744 : decode b_La_law 744 = .ok (.aload_n 2, 1) := by decide +kernel
theorem d_La_law_745 : decode b_La_law 745 = .ok (.aload_n 0, 1) := by decide +kernel
theorem d_La_law_746 : decode b_La_law 746 = .ok (.iload 4, 2) := by decide +kernel
theorem d_La_law_748 : decode b_La_law 748 = .ok (.iconst 1, 1) := by decide +kernel
theorem d_La_law_749 : decode b_La_law 749 = .ok (.iadd, 1) := by decide +kernel
theorem d_La_law_750 : decode b_La_law 750 = .ok (.iaload, 1) := by decide +kernel
theorem d_La_law_751 : decode b_La_law 751 = .ok (.invokevirtual 136, 3) := by decide +kernel
theorem d_La_law_754 : decode b_La_law 754 = .ok (.istore 6, 2) := by decide +kernel
theorem d_La_law_756 : decode b_La_law 756 = .ok (.goto 44, 3) := by decide +kernel
theorem d_La_law_759 : decode b_La_law 759 = .ok (.aload_n 1, 1) := by decide +kernel
theorem d_La_law_760 : decode b_La_law 760 = .ok (.aload_n 3, 1) := by decide +kernel
theorem d_La_law_761 : decode b_La_law 761 = .ok (.invokestatic 137, 3) := by decide +kernel
theorem d_La_law_764 : decode b_La_law 764 = .ok (.istore 5, 2) := by decide +kernel
theorem d_La_law_766 : decode b_La_law 766 = .ok (.aload_n 2, 1) := by decide +kernel
theorem d_La_law_767 : decode b_La_law 767 = .ok (.invokevirtual 140, 3) := by decide +kernel
theorem d_La_law_770 : decode b_La_law 770 = .ok (.istore 6, 2) := by decide +kernel
theorem d_La_law_772 : decode b_La_law 772 = .ok (.goto 28, 3) := by decide +kernel
theorem d_La_law_775 : decode b_La_law 775 = .ok (.aload_n 1, 1) := by decide +kernel
theorem d_La_law_776 : decode b_La_law 776 = .ok (.aload_n 0, 1) := by decide +kernel
theorem d_La_law_777 : decode b_La_law 777 = .ok (.iload 4, 2) := by decide +kernel
theorem d_La_law_779 : decode b_La_law 779 = .ok (.iconst 1, 1) := by decide +kernel
theorem d_La_law_780 : decode b_La_law 780 = .ok (.iadd, 1) := by decide +kernel
theorem d_La_law_781 : decode b_La_law 781 = .ok (.iaload, 1) := by decide +kernel
theorem d_La_law_782 : decode b_La_law 782 = .ok (.invokevirtual 141, 3) := by decide +kernel
theorem d_La_law_785 : decode b_La_law 785 = .ok (.aload_n 2, 1) := by decide +kernel
theorem d_La_law_786 : decode b_La_law 786 = .ok (.aload_n 0, 1) := by decide +kernel
theorem d_La_law_787 : decode b_La_law 787 = .ok (.iload 4, 2) := by decide +kernel
theorem d_La_law_789 : decode b_La_law 789 = .ok (.iconst 1, 1) := by decide +kernel
theorem d_La_law_790 : decode b_La_law 790 = .ok (.iadd, 1) := by decide +kernel
theorem d_La_law_791 : decode b_La_law 791 = .ok (.iaload, 1) := by decide +kernel
theorem d_La_law_792 : decode b_La_law 792 = .ok (.invokevirtual 144, 3) := by decide +kernel
theorem d_La_law_795 : decode b_La_law 795 = .ok (.if_icmp .eq 5, 3) := by decide +kernel
theorem d_La_law_798 : decode b_La_law 798 = .ok (.iconst 0, 1) := by decide +kernel
theorem d_La_law_799 : decode b_La_law 799 = .ok (.ireturn, 1) := by decide +kernel
theorem d_La_law_800 : decode b_La_law 800 = .ok (.iinc 4 5, 3) := by decide +kernel
theorem d_La_law_803 : decode b_La_law 803 = .ok (.goto (-780), 3) := by decide +kernel
theorem d_La_law_806 : decode b_La_law 806 = .ok (.iconst 1, 1) := by decide +kernel
theorem d_La_law_807 : decode b_La_law 807 = .ok (.ireturn, 1) := by decide +kernel
