abbrev b_La_law : ByteArray := code
abbrev n_La_law : MethodName := ⟨"BeltRowsLaw", "law", "([I)Z"⟩
theorem d_La_law_0 : decode b_La_law 0 = .ok (.new 8, 3) := by decide +kernel
theorem d_La_law_3 : decode b_La_law 3 = .ok (.dup, 1) := by decide +kernel
theorem d_La_law_4 : decode b_La_law 4 = .ok (.invokespecial 77, 3) := by decide +kernel
theorem d_La_law_7 : decode b_La_law 7 = .ok (.astore_n 1, 1) := by decide +kernel
theorem d_La_law_8 : decode b_La_law 8 = .ok (.new 78, 3) := by decide +kernel
theorem d_La_law_11 : decode b_La_law 11 = .ok (.dup, 1) := by decide +kernel
theorem d_La_law_12 : decode b_La_law 12 = .ok (.invokespecial 80, 3) := by decide +kernel
theorem d_La_law_15 : decode b_La_law 15 = .ok (.astore_n 2, 1) := by decide +kernel
theorem d_La_law_16 : decode b_La_law 16 = .ok (.iconst 1, 1) := by decide +kernel
theorem d_La_law_17 : decode b_La_law 17 = .ok (.newarray .long, 2) := by decide +kernel
theorem d_La_law_19 : decode b_La_law 19 = .ok (.astore_n 3, 1) := by decide +kernel
theorem d_La_law_20 : decode b_La_law 20 = .ok (.iconst 0, 1) := by decide +kernel
theorem d_La_law_21 : decode b_La_law 21 = .ok (.istore 4, 2) := by decide +kernel
theorem d_La_law_23 : decode b_La_law 23 = .ok (.iload 4, 2) := by decide +kernel
theorem d_La_law_25 : decode b_La_law 25 = .ok (.aload_n 0, 1) := by decide +kernel
theorem d_La_law_26 : decode b_La_law 26 = .ok (.arraylength, 1) := by decide +kernel
theorem d_La_law_27 : decode b_La_law 27 = .ok (.iconst 5, 1) := by decide +kernel
theorem d_La_law_28 : decode b_La_law 28 = .ok (.isub, 1) := by decide +kernel
theorem d_La_law_29 : decode b_La_law 29 = .ok (.if_icmp .gt 1202, 3) := by decide +kernel
theorem d_La_law_32 : decode b_La_law 32 = .ok (.aload_n 0, 1) := by decide +kernel
theorem d_La_law_33 : decode b_La_law 33 = .ok (.iload 4, 2) := by decide +kernel
theorem d_La_law_35 : decode b_La_law 35 = .ok (.iaload, 1) := by decide +kernel
theorem d_La_law_36 : decode b_La_law 36 = .ok (.bipush 31, 2) := by decide +kernel
theorem d_La_law_38 : decode b_La_law 38 = .ok (.iand, 1) := by decide +kernel
theorem d_La_law_39 : decode b_La_law 39 = .ok (.tableswitch 1186 0 17 #[85, 153, 245, 321, 357, 437, 505, 573, 629, 697, 765, 801, 857, 925, 993, 1061, 1117, 1161], 85) := by decide +kernel
theorem d_La_law_124 : decode b_La_law 124 = .ok (.aload_n 1, 1) := by decide +kernel
theorem d_La_law_125 : decode b_La_law 125 = .ok (.aload_n 0, 1) := by decide +kernel
theorem d_La_law_126 : decode b_La_law 126 = .ok (.iload 4, 2) := by decide +kernel
theorem d_La_law_128 : decode b_La_law 128 = .ok (.iconst 1, 1) := by decide +kernel
theorem d_La_law_129 : decode b_La_law 129 = .ok (.iadd, 1) := by decide +kernel
theorem d_La_law_130 : decode b_La_law 130 = .ok (.iaload, 1) := by decide +kernel
theorem d_La_law_131 : decode b_La_law 131 = .ok (.aload_n 0, 1) := by decide +kernel
theorem d_La_law_132 : decode b_La_law 132 = .ok (.iload 4, 2) := by decide +kernel
theorem d_La_law_134 : decode b_La_law 134 = .ok (.iconst 2, 1) := by decide +kernel
theorem d_La_law_135 : decode b_La_law 135 = .ok (.iadd, 1) := by decide +kernel
theorem d_La_law_136 : decode b_La_law 136 = .ok (.iaload, 1) := by decide +kernel
theorem d_La_law_137 : decode b_La_law 137 = .ok (.aload_n 3, 1) := by decide +kernel
theorem d_La_law_138 : decode b_La_law 138 = .ok (.invokestatic 81, 3) := by decide +kernel
theorem d_La_law_141 : decode b_La_law 141 = .ok (.istore 5, 2) := by decide +kernel
theorem d_La_law_143 : decode b_La_law 143 = .ok (.aload_n 2, 1) := by decide +kernel
theorem d_La_law_144 : decode b_La_law 144 = .ok (.aload_n 0, 1) := by decide +kernel
theorem d_La_law_145 : decode b_La_law 145 = .ok (.iload 4, 2) := by decide +kernel
theorem d_La_law_147 : decode b_La_law 147 = .ok (.iconst 1, 1) := by decide +kernel
theorem d_La_law_148 : decode b_La_law 148 = .ok (.iadd, 1) := by decide +kernel
theorem d_La_law_149 : decode b_La_law 149 = .ok (.iaload, 1) := by decide +kernel
theorem d_La_law_150 : decode b_La_law 150 = .ok (.aload_n 0, 1) := by decide +kernel
theorem d_La_law_151 : decode b_La_law 151 = .ok (.iload 4, 2) := by decide +kernel
theorem d_La_law_153 : decode b_La_law 153 = .ok (.iconst 2, 1) := by decide +kernel
theorem d_La_law_154 : decode b_La_law 154 = .ok (.iadd, 1) := by decide +kernel
theorem d_La_law_155 : decode b_La_law 155 = .ok (.iaload, 1) := by decide +kernel
theorem d_La_law_156 : decode b_La_law 156 = .ok (.invokevirtual 86, 3) := by decide +kernel
theorem d_La_law_159 : decode b_La_law 159 = .ok (.istore 6, 2) := by decide +kernel
theorem d_La_law_161 : decode b_La_law 161 = .ok (.aload_n 2, 1) := by decide +kernel
theorem d_La_law_162 : decode b_La_law 162 = .ok (.invokevirtual 87, 3) := by decide +kernel
theorem d_La_law_165 : decode b_La_law 165 = .ok (.iload 5, 2) := by decide +kernel
theorem d_La_law_167 : decode b_La_law 167 = .ok (.if_icmp .eq 5, 3) := by decide +kernel
theorem d_La_law_170 : decode b_La_law 170 = .ok (.iconst 0, 1) := by decide +kernel
theorem d_La_law_171 : decode b_La_law 171 = .ok (.ireturn, 1) := by decide +kernel
theorem d_La_law_172 : decode b_La_law 172 = .ok (.iload 5, 2) := by decide +kernel
theorem d_La_law_174 : decode b_La_law 174 = .ok (.ifCond .ne 15, 3) := by decide +kernel
theorem d_La_law_177 : decode b_La_law 177 = .ok (.aload_n 3, 1) := by decide +kernel
theorem d_La_law_178 : decode b_La_law 178 = .ok (.iconst 0, 1) := by decide +kernel
theorem d_La_law_179 : decode b_La_law 179 = .ok (.laload, 1) := by decide +kernel
theorem d_La_law_180 : decode b_La_law 180 = .ok (.iload 6, 2) := by decide +kernel
theorem d_La_law_182 : decode b_La_law 182 = .ok (.i2l, 1) := by decide +kernel
theorem d_La_law_183 : decode b_La_law 183 = .ok (.lcmp, 1) := by decide +kernel
theorem d_La_law_184 : decode b_La_law 184 = .ok (.ifCond .eq 5, 3) := by decide +kernel
theorem d_La_law_187 : decode b_La_law 187 = .ok (.iconst 0, 1) := by decide +kernel
theorem d_La_law_188 : decode b_La_law 188 = .ok (.ireturn, 1) := by decide +kernel
theorem d_La_law_189 : decode b_La_law 189 = .ok (.goto 1036, 3) := by decide +kernel
theorem d_La_law_192 : decode b_La_law 192 = .ok (.aload_n 1, 1) := by decide +kernel
theorem d_La_law_193 : decode b_La_law 193 = .ok (.aload_n 0, 1) := by decide +kernel
theorem d_La_law_194 : decode b_La_law 194 = .ok (.iload 4, 2) := by decide +kernel
theorem d_La_law_196 : decode b_La_law 196 = .ok (.iconst 1, 1) := by decide +kernel
theorem d_La_law_197 : decode b_La_law 197 = .ok (.iadd, 1) := by decide +kernel
theorem d_La_law_198 : decode b_La_law 198 = .ok (.iaload, 1) := by decide +kernel
theorem d_La_law_199 : decode b_La_law 199 = .ok (.aload_n 0, 1) := by decide +kernel
theorem d_La_law_200 : decode b_La_law 200 = .ok (.iload 4, 2) := by decide +kernel
theorem d_La_law_202 : decode b_La_law 202 = .ok (.iconst 2, 1) := by decide +kernel
theorem d_La_law_203 : decode b_La_law 203 = .ok (.iadd, 1) := by decide +kernel
theorem d_La_law_204 : decode b_La_law 204 = .ok (.iaload, 1) := by decide +kernel
theorem d_La_law_205 : decode b_La_law 205 = .ok (.aload_n 0, 1) := by decide +kernel
theorem d_La_law_206 : decode b_La_law 206 = .ok (.iload 4, 2) := by decide +kernel
theorem d_La_law_208 : decode b_La_law 208 = .ok (.iconst 3, 1) := by decide +kernel
theorem d_La_law_209 : decode b_La_law 209 = .ok (.iadd, 1) := by decide +kernel
theorem d_La_law_210 : decode b_La_law 210 = .ok (.iaload, 1) := by decide +kernel
theorem d_La_law_211 : decode b_La_law 211 = .ok (.aload_n 0, 1) := by decide +kernel
theorem d_La_law_212 : decode b_La_law 212 = .ok (.iload 4, 2) := by decide +kernel
theorem d_La_law_214 : decode b_La_law 214 = .ok (.iconst 4, 1) := by decide +kernel
theorem d_La_law_215 : decode b_La_law 215 = .ok (.iadd, 1) := by decide +kernel
theorem d_La_law_216 : decode b_La_law 216 = .ok (.iaload, 1) := by decide +kernel
theorem d_La_law_217 : decode b_La_law 217 = .ok (.aload_n 3, 1) := by decide +kernel
theorem d_La_law_218 : decode b_La_law 218 = .ok (.invokestatic 90, 3) := by decide +kernel
theorem d_La_law_221 : decode b_La_law 221 = .ok (.istore 5, 2) := by decide +kernel
theorem d_La_law_223 : decode b_La_law 223 = .ok (.aload_n 2, 1) := by decide +kernel
theorem d_La_law_224 : decode b_La_law 224 = .ok (.aload_n 0, 1) := by decide +kernel
theorem d_La_law_225 : decode b_La_law 225 = .ok (.iload 4, 2) := by decide +kernel
theorem d_La_law_227 : decode b_La_law 227 = .ok (.iconst 1, 1) := by decide +kernel
theorem d_La_law_228 : decode b_La_law 228 = .ok (.iadd, 1) := by decide +kernel
theorem d_La_law_229 : decode b_La_law 229 = .ok (.iaload, 1) := by decide +kernel
theorem d_La_law_230 : decode b_La_law 230 = .ok (.aload_n 0, 1) := by decide +kernel
theorem d_La_law_231 : decode b_La_law 231 = .ok (.iload 4, 2) := by decide +kernel
theorem d_La_law_233 : decode b_La_law 233 = .ok (.iconst 2, 1) := by decide +kernel
theorem d_La_law_234 : decode b_La_law 234 = .ok (.iadd, 1) := by decide +kernel
theorem d_La_law_235 : decode b_La_law 235 = .ok (.iaload, 1) := by decide +kernel
theorem d_La_law_236 : decode b_La_law 236 = .ok (.aload_n 0, 1) := by decide +kernel
theorem d_La_law_237 : decode b_La_law 237 = .ok (.iload 4, 2) := by decide +kernel
theorem d_La_law_239 : decode b_La_law 239 = .ok (.iconst 3, 1) := by decide +kernel
theorem d_La_law_240 : decode b_La_law 240 = .ok (.iadd, 1) := by decide +kernel
theorem d_La_law_241 : decode b_La_law 241 = .ok (.iaload, 1) := by decide +kernel
theorem d_La_law_242 : decode b_La_law 242 = .ok (.aload_n 0, 1) := by decide +kernel
theorem d_La_law_243 : decode b_La_law 243 = .ok (.iload 4, 2) := by decide +kernel
theorem d_La_law_245 : decode b_La_law 245 = .ok (.iconst 4, 1) := by decide +kernel
theorem d_La_law_246 : decode b_La_law 246 = .ok (.iadd, 1) := by decide +kernel
theorem d_La_law_247 : decode b_La_law 247 = .ok (.iaload, 1) := by decide +kernel
theorem d_La_law_248 : decode b_La_law 248 = .ok (.invokevirtual 93, 3) := by decide +kernel
theorem d_La_law_251 : decode b_La_law 251 = .ok (.istore 6, 2) := by decide +kernel
theorem d_La_law_253 : decode b_La_law 253 = .ok (.aload_n 2, 1) := by decide +kernel
theorem d_La_law_254 : decode b_La_law 254 = .ok (.invokevirtual 87, 3) := by decide +kernel
theorem d_La_law_257 : decode b_La_law 257 = .ok (.iload 5, 2) := by decide +kernel
theorem d_La_law_259 : decode b_La_law 259 = .ok (.if_icmp .eq 5, 3) := by decide +kernel
theorem d_La_law_262 : decode b_La_law 262 = .ok (.iconst 0, 1) := by decide +kernel
theorem d_La_law_263 : decode b_La_law 263 = .ok (.ireturn, 1) := by decide +kernel
theorem d_La_law_264 : decode b_La_law 264 = .ok (.iload 5, 2) := by decide +kernel
theorem d_La_law_266 : decode b_La_law 266 = .ok (.ifCond .ne 15, 3) := by decide +kernel
theorem d_La_law_269 : decode b_La_law 269 = .ok (.aload_n 3, 1) := by decide +kernel
theorem d_La_law_270 : decode b_La_law 270 = .ok (.iconst 0, 1) := by decide +kernel
theorem d_La_law_271 : decode b_La_law 271 = .ok (.laload, 1) := by decide +kernel
theorem d_La_law_272 : decode b_La_law 272 = .ok (.iload 6, 2) := by decide +kernel
theorem d_La_law_274 : decode b_La_law 274 = .ok (.i2l, 1) := by decide +kernel
theorem d_La_law_275 : decode b_La_law 275 = .ok (.lcmp, 1) := by decide +kernel
theorem d_La_law_276 : decode b_La_law 276 = .ok (.ifCond .eq 5, 3) := by decide +kernel
theorem d_La_law_279 : decode b_La_law 279 = .ok (.iconst 0, 1) := by decide +kernel
theorem d_La_law_280 : decode b_La_law 280 = .ok (.ireturn, 1) := by decide +kernel
theorem d_La_law_281 : decode b_La_law 281 = .ok (.goto 944, 3) := by decide +kernel
theorem d_La_law_284 : decode b_La_law 284 = .ok (.aload_n 1, 1) := by decide +kernel
theorem d_La_law_285 : decode b_La_law 285 = .ok (.aload_n 0, 1) := by decide +kernel
theorem d_La_law_286 : decode b_La_law 286 = .ok (.iload 4, 2) := by decide +kernel
theorem d_La_law_288 : decode b_La_law 288 = .ok (.iconst 1, 1) := by decide +kernel
theorem d_La_law_289 : decode b_La_law 289 = .ok (.iadd, 1) := by decide +kernel
theorem d_La_law_290 : decode b_La_law 290 = .ok (.iaload, 1) := by decide +kernel
theorem d_La_law_291 : decode b_La_law 291 = .ok (.aload_n 0, 1) := by decide +kernel
theorem d_La_law_292 : decode b_La_law 292 = .ok (.iload 4, 2) := by decide +kernel
theorem d_La_law_294 : decode b_La_law 294 = .ok (.iconst 2, 1) := by decide +kernel
theorem d_La_law_295 : decode b_La_law 295 = .ok (.iadd, 1) := by decide +kernel
theorem d_La_law_296 : decode b_La_law 296 = .ok (.iaload, 1) := by decide +kernel
theorem d_La_law_297 : decode b_La_law 297 = .ok (.aload_n 0, 1) := by decide +kernel
theorem d_La_law_298 : decode b_La_law 298 = .ok (.iload 4, 2) := by decide +kernel
theorem d_La_law_300 : decode b_La_law 300 = .ok (.iconst 3, 1) := by decide +kernel
theorem d_La_law_301 : decode b_La_law 301 = .ok (.iadd, 1) := by decide +kernel
theorem d_La_law_302 : decode b_La_law 302 = .ok (.iaload, 1) := by decide +kernel
theorem d_La_law_303 : decode b_La_law 303 = .ok (.ifCond .eq 7, 3) := by decide +kernel
theorem d_La_law_306 : decode b_La_law 306 = .ok (.iconst 1, 1) := by decide +kernel
theorem d_La_law_307 : decode b_La_law 307 = .ok (.goto 4, 3) := by decide +kernel
theorem d_La_law_310 : decode b_La_law 310 = .ok (.iconst 0, 1) := by decide +kernel
theorem d_La_law_311 : decode b_La_law 311 = .ok (.invokestatic 94, 3) := by decide +kernel
theorem d_La_law_314 : decode b_La_law 314 = .ok (.istore 5, 2) := by decide +kernel
theorem d_La_law_316 : decode b_La_law 316 = .ok (.aload_n 2, 1) := by decide +kernel
theorem d_La_law_317 : decode b_La_law 317 = .ok (.aload_n 0, 1) := by decide +kernel
theorem d_La_law_318 : decode b_La_law 318 = .ok (.iload 4, 2) := by decide +kernel
theorem d_La_law_320 : decode b_La_law 320 = .ok (.iconst 1, 1) := by decide +kernel
theorem d_La_law_321 : decode b_La_law 321 = .ok (.iadd, 1) := by decide +kernel
theorem d_La_law_322 : decode b_La_law 322 = .ok (.iaload, 1) := by decide +kernel
theorem d_La_law_323 : decode b_La_law 323 = .ok (.aload_n 0, 1) := by decide +kernel
theorem d_La_law_324 : decode b_La_law 324 = .ok (.iload 4, 2) := by decide +kernel
theorem d_La_law_326 : decode b_La_law 326 = .ok (.iconst 2, 1) := by decide +kernel
theorem d_La_law_327 : decode b_La_law 327 = .ok (.iadd, 1) := by decide +kernel
theorem d_La_law_328 : decode b_La_law 328 = .ok (.iaload, 1) := by decide +kernel
theorem d_La_law_329 : decode b_La_law 329 = .ok (.aload_n 0, 1) := by decide +kernel
theorem d_La_law_330 : decode b_La_law 330 = .ok (.iload 4, 2) := by decide +kernel
theorem d_La_law_332 : decode b_La_law 332 = .ok (.iconst 3, 1) := by decide +kernel
theorem d_La_law_333 : decode b_La_law 333 = .ok (.iadd, 1) := by decide +kernel
theorem d_La_law_334 : decode b_La_law 334 = .ok (.iaload, 1) := by decide +kernel
theorem d_La_law_335 : decode b_La_law 335 = .ok (.ifCond .eq 7, 3) := by decide +kernel
theorem d_La_law_338 : decode b_La_law 338 = .ok (.iconst 1, 1) := by decide +kernel
theorem d_La_law_339 : decode b_La_law 339 = .ok (.goto 4, 3) := by decide +kernel
theorem d_La_law_342 : decode b_La_law 342 = .ok (.iconst 0, 1) := by decide +kernel
theorem d_La_law_343 : decode b_La_law 343 = .ok (.invokevirtual 97, 3) := by decide +kernel
theorem d_La_law_346 : decode b_La_law 346 = .ok (.aload_n 2, 1) := by decide +kernel
theorem d_La_law_347 : decode b_La_law 347 = .ok (.invokevirtual 87, 3) := by decide +kernel
theorem d_La_law_350 : decode b_La_law 350 = .ok (.iload 5, 2) := by decide +kernel
theorem d_La_law_352 : decode b_La_law 352 = .ok (.if_icmp .eq 5, 3) := by decide +kernel
theorem d_La_law_355 : decode b_La_law 355 = .ok (.iconst 0, 1) := by decide +kernel
theorem d_La_law_356 : decode b_La_law 356 = .ok (.ireturn, 1) := by decide +kernel
theorem d_La_law_357 : decode b_La_law 357 = .ok (.goto 868, 3) := by decide +kernel
theorem d_La_law_360 : decode b_La_law 360 = .ok (.aload_n 1, 1) := by decide +kernel
theorem d_La_law_361 : decode b_La_law 361 = .ok (.aload_n 0, 1) := by decide +kernel
theorem d_La_law_362 : decode b_La_law 362 = .ok (.iload 4, 2) := by decide +kernel
theorem d_La_law_364 : decode b_La_law 364 = .ok (.iconst 1, 1) := by decide +kernel
theorem d_La_law_365 : decode b_La_law 365 = .ok (.iadd, 1) := by decide +kernel
theorem d_La_law_366 : decode b_La_law 366 = .ok (.iaload, 1) := by decide +kernel
theorem d_La_law_367 : decode b_La_law 367 = .ok (.invokestatic 98, 3) := by decide +kernel
theorem d_La_law_370 : decode b_La_law 370 = .ok (.istore 5, 2) := by decide +kernel
theorem d_La_law_372 : decode b_La_law 372 = .ok (.aload_n 2, 1) := by decide +kernel
theorem d_La_law_373 : decode b_La_law 373 = .ok (.aload_n 0, 1) := by decide +kernel
theorem d_La_law_374 : decode b_La_law 374 = .ok (.iload 4, 2) := by decide +kernel
theorem d_La_law_376 : decode b_La_law 376 = .ok (.iconst 1, 1) := by decide +kernel
theorem d_La_law_377 : decode b_La_law 377 = .ok (.iadd, 1) := by decide +kernel
theorem d_La_law_378 : decode b_La_law 378 = .ok (.iaload, 1) := by decide +kernel
theorem d_La_law_379 : decode b_La_law 379 = .ok (.invokevirtual 101, 3) := by decide +kernel
theorem d_La_law_382 : decode b_La_law 382 = .ok (.aload_n 2, 1) := by decide +kernel
theorem d_La_law_383 : decode b_La_law 383 = .ok (.invokevirtual 87, 3) := by decide +kernel
theorem d_La_law_386 : decode b_La_law 386 = .ok (.iload 5, 2) := by decide +kernel
theorem d_La_law_388 : decode b_La_law 388 = .ok (.if_icmp .eq 5, 3) := by decide +kernel
theorem d_La_law_391 : decode b_La_law 391 = .ok (.iconst 0, 1) := by decide +kernel
theorem d_La_law_392 : decode b_La_law 392 = .ok (.ireturn, 1) := by decide +kernel
theorem d_La_law_393 : decode b_La_law 393 = .ok (.goto 832, 3) := by decide +kernel
theorem d_La_law_396 : decode b_La_law 396 = .ok (.aload_n 1, 1) := by decide +kernel
theorem d_La_law_397 : decode b_La_law 397 = .ok (.aload_n 0, 1) := by decide +kernel
theorem d_La_law_398 : decode b_La_law 398 = .ok (.iload 4, 2) := by decide +kernel
theorem d_La_law_400 : decode b_La_law 400 = .ok (.iconst 1, 1) := by decide +kernel
theorem d_La_law_401 : decode b_La_law 401 = .ok (.iadd, 1) := by decide +kernel
theorem d_La_law_402 : decode b_La_law 402 = .ok (.iaload, 1) := by decide +kernel
theorem d_La_law_403 : decode b_La_law 403 = .ok (.aload_n 0, 1) := by decide +kernel
theorem d_La_law_404 : decode b_La_law 404 = .ok (.iload 4, 2) := by decide +kernel
theorem d_La_law_406 : decode b_La_law 406 = .ok (.iconst 2, 1) := by decide +kernel
theorem d_La_law_407 : decode b_La_law 407 = .ok (.iadd, 1) := by decide +kernel
theorem d_La_law_408 : decode b_La_law 408 = .ok (.iaload, 1) := by decide +kernel
theorem d_La_law_409 : decode b_La_law 409 = .ok (.aload_n 0, 1) := by decide +kernel
theorem d_La_law_410 : decode b_La_law 410 = .ok (.iload 4, 2) := by decide +kernel
theorem d_La_law_412 : decode b_La_law 412 = .ok (.iconst 3, 1) := by decide +kernel
theorem d_La_law_413 : decode b_La_law 413 = .ok (.iadd, 1) := by decide +kernel
theorem d_La_law_414 : decode b_La_law 414 = .ok (.iaload, 1) := by decide +kernel
theorem d_La_law_415 : decode b_La_law 415 = .ok (.aload_n 3, 1) := by decide +kernel
theorem d_La_law_416 : decode b_La_law 416 = .ok (.invokestatic 102, 3) := by decide +kernel
theorem d_La_law_419 : decode b_La_law 419 = .ok (.istore 5, 2) := by decide +kernel
theorem d_La_law_421 : decode b_La_law 421 = .ok (.aload_n 2, 1) := by decide +kernel
theorem d_La_law_422 : decode b_La_law 422 = .ok (.aload_n 0, 1) := by decide +kernel
theorem d_La_law_423 : decode b_La_law 423 = .ok (.iload 4, 2) := by decide +kernel
theorem d_La_law_425 : decode b_La_law 425 = .ok (.iconst 1, 1) := by decide +kernel
theorem d_La_law_426 : decode b_La_law 426 = .ok (.iadd, 1) := by decide +kernel
theorem d_La_law_427 : decode b_La_law 427 = .ok (.iaload, 1) := by decide +kernel
theorem d_La_law_428 : decode b_La_law 428 = .ok (.aload_n 0, 1) := by decide +kernel
theorem d_La_law_429 : decode b_La_law 429 = .ok (.iload 4, 2) := by decide +kernel
theorem d_La_law_431 : decode b_La_law 431 = .ok (.iconst 2, 1) := by decide +kernel
theorem d_La_law_432 : decode b_La_law 432 = .ok (.iadd, 1) := by decide +kernel
theorem d_La_law_433 : decode b_La_law 433 = .ok (.iaload, 1) := by decide +kernel
theorem d_La_law_434 : decode b_La_law 434 = .ok (.aload_n 0, 1) := by decide +kernel
theorem d_La_law_435 : decode b_La_law 435 = .ok (.iload 4, 2) := by decide +kernel
theorem d_La_law_437 : decode b_La_law 437 = .ok (.iconst 3, 1) := by decide +kernel
theorem d_La_law_438 : decode b_La_law 438 = .ok (.iadd, 1) := by decide +kernel
theorem d_La_law_439 : decode b_La_law 439 = .ok (.iaload, 1) := by decide +kernel
theorem d_La_law_440 : decode b_La_law 440 = .ok (.invokevirtual 105, 3) := by decide +kernel
theorem d_La_law_443 : decode b_La_law 443 = .ok (.istore 6, 2) := by decide +kernel
theorem d_La_law_445 : decode b_La_law 445 = .ok (.aload_n 2, 1) := by decide +kernel
theorem d_La_law_446 : decode b_La_law 446 = .ok (.invokevirtual 87, 3) := by decide +kernel
theorem d_La_law_449 : decode b_La_law 449 = .ok (.iload 5, 2) := by decide +kernel
theorem d_La_law_451 : decode b_La_law 451 = .ok (.if_icmp .eq 5, 3) := by decide +kernel
theorem d_La_law_454 : decode b_La_law 454 = .ok (.iconst 0, 1) := by decide +kernel
theorem d_La_law_455 : decode b_La_law 455 = .ok (.ireturn, 1) := by decide +kernel
theorem d_La_law_456 : decode b_La_law 456 = .ok (.iload 5, 2) := by decide +kernel
theorem d_La_law_458 : decode b_La_law 458 = .ok (.ifCond .ne 15, 3) := by decide +kernel
theorem d_La_law_461 : decode b_La_law 461 = .ok (.aload_n 3, 1) := by decide +kernel
theorem d_La_law_462 : decode b_La_law 462 = .ok (.iconst 0, 1) := by decide +kernel
theorem d_La_law_463 : decode b_La_law 463 = .ok (.laload, 1) := by decide +kernel
theorem d_La_law_464 : decode b_La_law 464 = .ok (.iload 6, 2) := by decide +kernel
theorem d_La_law_466 : decode b_La_law 466 = .ok (.i2l, 1) := by decide +kernel
theorem d_La_law_467 : decode b_La_law 467 = .ok (.lcmp, 1) := by decide +kernel
theorem d_La_law_468 : decode b_La_law 468 = .ok (.ifCond .eq 5, 3) := by decide +kernel
theorem d_La_law_471 : decode b_La_law 471 = .ok (.iconst 0, 1) := by decide +kernel
theorem d_La_law_472 : decode b_La_law 472 = .ok (.ireturn, 1) := by decide +kernel
theorem d_La_law_473 : decode b_La_law 473 = .ok (.goto 752, 3) := by decide +kernel
theorem d_La_law_476 : decode b_La_law 476 = .ok (.aload_n 1, 1) := by decide +kernel
theorem d_La_law_477 : decode b_La_law 477 = .ok (.aload_n 0, 1) := by decide +kernel
theorem d_La_law_478 : decode b_La_law 478 = .ok (.iload 4, 2) := by decide +kernel
theorem d_La_law_480 : decode b_La_law 480 = .ok (.iconst 1, 1) := by decide +kernel
theorem d_La_law_481 : decode b_La_law 481 = .ok (.iadd, 1) := by decide +kernel
theorem d_La_law_482 : decode b_La_law 482 = .ok (.iaload, 1) := by decide +kernel
theorem d_La_law_483 : decode b_La_law 483 = .ok (.aload_n 0, 1) := by decide +kernel
theorem d_La_law_484 : decode b_La_law 484 = .ok (.iload 4, 2) := by decide +kernel
theorem d_La_law_486 : decode b_La_law 486 = .ok (.iconst 2, 1) := by decide +kernel
theorem d_La_law_487 : decode b_La_law 487 = .ok (.iadd, 1) := by decide +kernel
theorem d_La_law_488 : decode b_La_law 488 = .ok (.iaload, 1) := by decide +kernel
theorem d_La_law_489 : decode b_La_law 489 = .ok (.aload_n 3, 1) := by decide +kernel
theorem d_La_law_490 : decode b_La_law 490 = .ok (.invokestatic 106, 3) := by decide +kernel
theorem d_La_law_493 : decode b_La_law 493 = .ok (.istore 5, 2) := by decide +kernel
theorem d_La_law_495 : decode b_La_law 495 = .ok (.aload_n 2, 1) := by decide +kernel
theorem d_La_law_496 : decode b_La_law 496 = .ok (.aload_n 0, 1) := by decide +kernel
theorem d_La_law_497 : decode b_La_law 497 = .ok (.iload 4, 2) := by decide +kernel
theorem d_La_law_499 : decode b_La_law 499 = .ok (.iconst 1, 1) := by decide +kernel
theorem d_La_law_500 : decode b_La_law 500 = .ok (.iadd, 1) := by decide +kernel
theorem d_La_law_501 : decode b_La_law 501 = .ok (.iaload, 1) := by decide +kernel
theorem d_La_law_502 : decode b_La_law 502 = .ok (.aload_n 0, 1) := by decide +kernel
theorem d_La_law_503 : decode b_La_law 503 = .ok (.iload 4, 2) := by decide +kernel
theorem d_La_law_505 : decode b_La_law 505 = .ok (.iconst 2, 1) := by decide +kernel
theorem d_La_law_506 : decode b_La_law 506 = .ok (.iadd, 1) := by decide +kernel
theorem d_La_law_507 : decode b_La_law 507 = .ok (.iaload, 1) := by decide +kernel
theorem d_La_law_508 : decode b_La_law 508 = .ok (.invokevirtual 108, 3) := by decide +kernel
theorem d_La_law_511 : decode b_La_law 511 = .ok (.istore 6, 2) := by decide +kernel
theorem d_La_law_513 : decode b_La_law 513 = .ok (.aload_n 2, 1) := by decide +kernel
theorem d_La_law_514 : decode b_La_law 514 = .ok (.invokevirtual 87, 3) := by decide +kernel
theorem d_La_law_517 : decode b_La_law 517 = .ok (.iload 5, 2) := by decide +kernel
theorem d_La_law_519 : decode b_La_law 519 = .ok (.if_icmp .eq 5, 3) := by decide +kernel
theorem d_La_law_522 : decode b_La_law 522 = .ok (.iconst 0, 1) := by decide +kernel
theorem d_La_law_523 : decode b_La_law 523 = .ok (.ireturn, 1) := by decide +kernel
theorem d_La_law_524 : decode b_La_law 524 = .ok (.iload 5, 2) := by decide +kernel
theorem d_La_law_526 : decode b_La_law 526 = .ok (.ifCond .ne 15, 3) := by decide +kernel
theorem d_La_law_529 : decode b_La_law 529 = .ok (.aload_n 3, 1) := by decide +kernel
theorem d_La_law_530 : decode b_La_law 530 = .ok (.iconst 0, 1) := by decide +kernel
theorem d_La_law_531 : decode b_La_law 531 = .ok (.laload, 1) := by decide +kernel
theorem d_La_law_532 : decode b_La_law 532 = .ok (.iload 6, 2) := by decide +kernel
theorem d_La_law_534 : decode b_La_law 534 = .ok (.i2l, 1) := by decide +kernel
theorem d_La_law_535 : decode b_La_law 535 = .ok (.lcmp, 1) := by decide +kernel
theorem d_La_law_536 : decode b_La_law 536 = .ok (.ifCond .eq 5, 3) := by decide +kernel
theorem d_La_law_539 : decode b_La_law 539 = .ok (.iconst 0, 1) := by decide +kernel
theorem d_La_law_540 : decode b_La_law 540 = .ok (.ireturn, 1) := by decide +kernel
theorem d_La_law_541 : decode b_La_law 541 = .ok (.goto 684, 3) := by decide +kernel
theorem d_La_law_544 : decode b_La_law 544 = .ok (.aload_n 1, 1) := by decide +kernel
theorem d_La_law_545 : decode b_La_law 545 = .ok (.aload_n 0, 1) := by decide +kernel
theorem d_La_law_546 : decode b_La_law 546 = .ok (.iload 4, 2) := by decide +kernel
theorem d_La_law_548 : decode b_La_law 548 = .ok (.iconst 1, 1) := by decide +kernel
theorem d_La_law_549 : decode b_La_law 549 = .ok (.iadd, 1) := by decide +kernel
theorem d_La_law_550 : decode b_La_law 550 = .ok (.iaload, 1) := by decide +kernel
theorem d_La_law_551 : decode b_La_law 551 = .ok (.aload_n 0, 1) := by decide +kernel
theorem d_La_law_552 : decode b_La_law 552 = .ok (.iload 4, 2) := by decide +kernel
theorem d_La_law_554 : decode b_La_law 554 = .ok (.iconst 2, 1) := by decide +kernel
theorem d_La_law_555 : decode b_La_law 555 = .ok (.iadd, 1) := by decide +kernel
theorem d_La_law_556 : decode b_La_law 556 = .ok (.iaload, 1) := by decide +kernel
theorem d_La_law_557 : decode b_La_law 557 = .ok (.aload_n 3, 1) := by decide +kernel
theorem d_La_law_558 : decode b_La_law 558 = .ok (.invokestatic 109, 3) := by decide +kernel
theorem d_La_law_561 : decode b_La_law 561 = .ok (.istore 5, 2) := by decide +kernel
theorem d_La_law_563 : decode b_La_law 563 = .ok (.aload_n 2, 1) := by decide +kernel
theorem d_La_law_564 : decode b_La_law 564 = .ok (.aload_n 0, 1) := by decide +kernel
theorem d_La_law_565 : decode b_La_law 565 = .ok (.iload 4, 2) := by decide +kernel
theorem d_La_law_567 : decode b_La_law 567 = .ok (.iconst 1, 1) := by decide +kernel
theorem d_La_law_568 : decode b_La_law 568 = .ok (.iadd, 1) := by decide +kernel
theorem d_La_law_569 : decode b_La_law 569 = .ok (.iaload, 1) := by decide +kernel
theorem d_La_law_570 : decode b_La_law 570 = .ok (.aload_n 0, 1) := by decide +kernel
theorem d_La_law_571 : decode b_La_law 571 = .ok (.iload 4, 2) := by decide +kernel
theorem d_La_law_573 : decode b_La_law 573 = .ok (.iconst 2, 1) := by decide +kernel
theorem d_La_law_574 : decode b_La_law 574 = .ok (.iadd, 1) := by decide +kernel
theorem d_La_law_575 : decode b_La_law 575 = .ok (.iaload, 1) := by decide +kernel
theorem d_La_law_576 : decode b_La_law 576 = .ok (.invokevirtual 111, 3) := by decide +kernel
theorem d_La_law_579 : decode b_La_law 579 = .ok (.istore 6, 2) := by decide +kernel
theorem d_La_law_581 : decode b_La_law 581 = .ok (.aload_n 2, 1) := by decide +kernel
theorem d_La_law_582 : decode b_La_law 582 = .ok (.invokevirtual 87, 3) := by decide +kernel
theorem d_La_law_585 : decode b_La_law 585 = .ok (.iload 5, 2) := by decide +kernel
theorem d_La_law_587 : decode b_La_law 587 = .ok (.if_icmp .eq 5, 3) := by decide +kernel
theorem d_La_law_590 : decode b_La_law 590 = .ok (.iconst 0, 1) := by decide +kernel
theorem d_La_law_591 : decode b_La_law 591 = .ok (.ireturn, 1) := by decide +kernel
theorem d_La_law_592 : decode b_La_law 592 = .ok (.iload 5, 2) := by decide +kernel
theorem d_La_law_594 : decode b_La_law 594 = .ok (.ifCond .ne 15, 3) := by decide +kernel
theorem d_La_law_597 : decode b_La_law 597 = .ok (.aload_n 3, 1) := by decide +kernel
theorem d_La_law_598 : decode b_La_law 598 = .ok (.iconst 0, 1) := by decide +kernel
theorem d_La_law_599 : decode b_La_law 599 = .ok (.laload, 1) := by decide +kernel
theorem d_La_law_600 : decode b_La_law 600 = .ok (.iload 6, 2) := by decide +kernel
theorem d_La_law_602 : decode b_La_law 602 = .ok (.i2l, 1) := by decide +kernel
theorem d_La_law_603 : decode b_La_law 603 = .ok (.lcmp, 1) := by decide +kernel
theorem d_La_law_604 : decode b_La_law 604 = .ok (.ifCond .eq 5, 3) := by decide +kernel
theorem d_La_law_607 : decode b_La_law 607 = .ok (.iconst 0, 1) := by decide +kernel
theorem d_La_law_608 : decode b_La_law 608 = .ok (.ireturn, 1) := by decide +kernel
theorem d_La_law_609 : decode b_La_law 609 = .ok (.goto 616, 3) := by decide +kernel
theorem d_La_law_612 : decode b_La_law 612 = .ok (.aload_n 1, 1) := by decide +kernel
theorem d_La_law_613 : decode b_La_law 613 = .ok (.aload_n 0, 1) := by decide +kernel
theorem d_La_law_614 : decode b_La_law 614 = .ok (.iload 4, 2) := by decide +kernel
theorem d_La_law_616 : decode b_La_law 616 = .ok (.iconst 1, 1) := by decide +kernel
theorem d_La_law_617 : decode b_La_law 617 = .ok (.iadd, 1) := by decide +kernel
theorem d_La_law_618 : decode b_La_law 618 = .ok (.iaload, 1) := by decide +kernel
theorem d_La_law_619 : decode b_La_law 619 = .ok (.aload_n 3, 1) := by decide +kernel
theorem d_La_law_620 : decode b_La_law 620 = .ok (.invokestatic 112, 3) := by decide +kernel
theorem d_La_law_623 : decode b_La_law 623 = .ok (.istore 5, 2) := by decide +kernel
theorem d_La_law_625 : decode b_La_law 625 = .ok (.aload_n 2, 1) := by decide +kernel
theorem d_La_law_626 : decode b_La_law 626 = .ok (.aload_n 0, 1) := by decide +kernel
theorem d_La_law_627 : decode b_La_law 627 = .ok (.iload 4, 2) := by decide +kernel
theorem d_La_law_629 : decode b_La_law 629 = .ok (.iconst 1, 1) := by decide +kernel
theorem d_La_law_630 : decode b_La_law 630 = .ok (.iadd, 1) := by decide +kernel
theorem d_La_law_631 : decode b_La_law 631 = .ok (.iaload, 1) := by decide +kernel
theorem d_La_law_632 : decode b_La_law 632 = .ok (.invokevirtual 115, 3) := by decide +kernel
theorem d_La_law_635 : decode b_La_law 635 = .ok (.istore 6, 2) := by decide +kernel
theorem d_La_law_637 : decode b_La_law 637 = .ok (.aload_n 2, 1) := by decide +kernel
theorem d_La_law_638 : decode b_La_law 638 = .ok (.invokevirtual 87, 3) := by decide +kernel
theorem d_La_law_641 : decode b_La_law 641 = .ok (.iload 5, 2) := by decide +kernel
theorem d_La_law_643 : decode b_La_law 643 = .ok (.if_icmp .eq 5, 3) := by decide +kernel
theorem d_La_law_646 : decode b_La_law 646 = .ok (.iconst 0, 1) := by decide +kernel
theorem d_La_law_647 : decode b_La_law 647 = .ok (.ireturn, 1) := by decide +kernel
theorem d_La_law_648 : decode b_La_law 648 = .ok (.iload 5, 2) := by decide +kernel
theorem d_La_law_650 : decode b_La_law 650 = .ok (.ifCond .ne 15, 3) := by decide +kernel
theorem d_La_law_653 : decode b_La_law 653 = .ok (.aload_n 3, 1) := by decide +kernel
theorem d_La_law_654 : decode b_La_law 654 = .ok (.iconst 0, 1) := by decide +kernel
theorem d_La_law_655 : decode b_La_law 655 = .ok (.laload, 1) := by decide +kernel
theorem d_La_law_656 : decode b_La_law 656 = .ok (.iload 6, 2) := by decide +kernel
theorem d_La_law_658 : decode b_La_law 658 = .ok (.i2l, 1) := by decide +kernel
theorem d_La_law_659 : decode b_La_law 659 = .ok (.lcmp, 1) := by decide +kernel
theorem d_La_law_660 : decode b_La_law 660 = .ok (.ifCond .eq 5, 3) := by decide +kernel
theorem d_La_law_663 : decode b_La_law 663 = .ok (.iconst 0, 1) := by decide +kernel
theorem d_La_law_664 : decode b_La_law 664 = .ok (.ireturn, 1) := by decide +kernel
theorem d_La_law_665 : decode b_La_law 665 = .ok (.goto 560, 3) := by decide +kernel
theorem d_La_law_668 : decode b_La_law 668 = .ok (.aload_n 1, 1) := by decide +kernel
theorem d_La_law_669 : decode b_La_law 669 = .ok (.aload_n 0, 1) := by decide +kernel
theorem d_La_law_670 : decode b_La_law 670 = .ok (.iload 4, 2) := by decide +kernel
theorem d_La_law_672 : decode b_La_law 672 = .ok (.iconst 1, 1) := by decide +kernel
theorem d_La_law_673 : decode b_La_law 673 = .ok (.iadd, 1) := by decide +kernel
theorem d_La_law_674 : decode b_La_law 674 = .ok (.iaload, 1) := by decide +kernel
theorem d_La_law_675 : decode b_La_law 675 = .ok (.aload_n 0, 1) := by decide +kernel
theorem d_La_law_676 : decode b_La_law 676 = .ok (.iload 4, 2) := by decide +kernel
theorem d_La_law_678 : decode b_La_law 678 = .ok (.iconst 2, 1) := by decide +kernel
theorem d_La_law_679 : decode b_La_law 679 = .ok (.iadd, 1) := by decide +kernel
theorem d_La_law_680 : decode b_La_law 680 = .ok (.iaload, 1) := by decide +kernel
theorem d_La_law_681 : decode b_La_law 681 = .ok (.aload_n 3, 1) := by decide +kernel
theorem d_La_law_682 : decode b_La_law 682 = .ok (.invokestatic 116, 3) := by decide +kernel
theorem d_La_law_685 : decode b_La_law 685 = .ok (.istore 5, 2) := by decide +kernel
theorem d_La_law_687 : decode b_La_law 687 = .ok (.aload_n 2, 1) := by decide +kernel
theorem d_La_law_688 : decode b_La_law 688 = .ok (.aload_n 0, 1) := by decide +kernel
theorem d_La_law_689 : decode b_La_law 689 = .ok (.iload 4, 2) := by decide +kernel
theorem d_La_law_691 : decode b_La_law 691 = .ok (.iconst 1, 1) := by decide +kernel
theorem d_La_law_692 : decode b_La_law 692 = .ok (.iadd, 1) := by decide +kernel
theorem d_La_law_693 : decode b_La_law 693 = .ok (.iaload, 1) := by decide +kernel
theorem d_La_law_694 : decode b_La_law 694 = .ok (.aload_n 0, 1) := by decide +kernel
theorem d_La_law_695 : decode b_La_law 695 = .ok (.iload 4, 2) := by decide +kernel
theorem d_La_law_697 : decode b_La_law 697 = .ok (.iconst 2, 1) := by decide +kernel
theorem d_La_law_698 : decode b_La_law 698 = .ok (.iadd, 1) := by decide +kernel
theorem d_La_law_699 : decode b_La_law 699 = .ok (.iaload, 1) := by decide +kernel
theorem d_La_law_700 : decode b_La_law 700 = .ok (.invokevirtual 118, 3) := by decide +kernel
theorem d_La_law_703 : decode b_La_law 703 = .ok (.istore 6, 2) := by decide +kernel
theorem d_La_law_705 : decode b_La_law 705 = .ok (.aload_n 2, 1) := by decide +kernel
theorem d_La_law_706 : decode b_La_law 706 = .ok (.invokevirtual 87, 3) := by decide +kernel
theorem d_La_law_709 : decode b_La_law 709 = .ok (.iload 5, 2) := by decide +kernel
theorem d_La_law_711 : decode b_La_law 711 = .ok (.if_icmp .eq 5, 3) := by decide +kernel
theorem d_La_law_714 : decode b_La_law 714 = .ok (.iconst 0, 1) := by decide +kernel
theorem d_La_law_715 : decode b_La_law 715 = .ok (.ireturn, 1) := by decide +kernel
theorem d_La_law_716 : decode b_La_law 716 = .ok (.iload 5, 2) := by decide +kernel
theorem d_La_law_718 : decode b_La_law 718 = .ok (.ifCond .ne 15, 3) := by decide +kernel
theorem d_La_law_721 : decode b_La_law 721 = .ok (.aload_n 3, 1) := by decide +kernel
theorem d_La_law_722 : decode b_La_law 722 = .ok (.iconst 0, 1) := by decide +kernel
theorem d_La_law_723 : decode b_La_law 723 = .ok (.laload, 1) := by decide +kernel
theorem d_La_law_724 : decode b_La_law 724 = .ok (.iload 6, 2) := by decide +kernel
theorem d_La_law_726 : decode b_La_law 726 = .ok (.i2l, 1) := by decide +kernel
theorem d_La_law_727 : decode b_La_law 727 = .ok (.lcmp, 1) := by decide +kernel
theorem d_La_law_728 : decode b_La_law 728 = .ok (.ifCond .eq 5, 3) := by decide +kernel
theorem d_La_law_731 : decode b_La_law 731 = .ok (.iconst 0, 1) := by decide +kernel
theorem d_La_law_732 : decode b_La_law 732 = .ok (.ireturn, 1) := by decide +kernel
theorem d_La_law_733 : decode b_La_law 733 = .ok (.goto 492, 3) := by decide +kernel
theorem d_La_law_736 : decode b_La_law 736 = .ok (.aload_n 1, 1) := by decide +kernel
theorem d_La_law_737 : decode b_La_law 737 = .ok (.aload_n 0, 1) := by decide +kernel
theorem d_La_law_738 : decode b_La_law 738 = .ok (.iload 4, 2) := by decide +kernel
theorem d_La_law_740 : decode b_La_law 740 = .ok (.iconst 1, 1) := by decide +kernel
theorem d_La_law_741 : decode b_La_law 741 = .ok (.iadd, 1) := by decide +kernel
theorem d_La_law_742 : decode b_La_law 742 = .ok (.iaload, 1) := by decide +kernel
theorem d_La_law_743 : decode b_La_law 743 = .ok (.aload_n 0, 1) := by decide +kernel
theorem d_La_law_744 : decode b_La_law 744 = .ok (.iload 4, 2) := by decide +kernel
theorem d_La_law_746 : decode b_La_law 746 = .ok (.iconst 2, 1) := by decide +kernel
theorem d_La_law_747 : decode b_La_law 747 = .ok (.iadd, 1) := by decide +kernel
theorem d_La_law_748 : decode b_La_law 748 = .ok (.iaload, 1) := by decide +kernel
theorem d_La_law_749 : decode b_La_law 749 = .ok (.aload_n 3, 1) := by decide +kernel
theorem d_La_law_750 : decode b_La_law 750 = .ok (.invokestatic 119, 3) := by decide +kernel
theorem d_La_law_753 : decode b_La_law 753 = .ok (.istore 5, 2) := by decide +kernel
theorem d_La_law_755 : decode b_La_law 755 = .ok (.aload_n 2, 1) := by decide +kernel
theorem d_La_law_756 : decode b_La_law 756 = .ok (.aload_n 0, 1) := by decide +kernel
theorem d_La_law_757 : decode b_La_law 757 = .ok (.iload 4, 2) := by decide +kernel
theorem d_La_law_759 : decode b_La_law 759 = .ok (.iconst 1, 1) := by decide +kernel
theorem d_La_law_760 : decode b_La_law 760 = .ok (.iadd, 1) := by decide +kernel
theorem d_La_law_761 : decode b_La_law 761 = .ok (.iaload, 1) := by decide +kernel
theorem d_La_law_762 : decode b_La_law 762 = .ok (.aload_n 0, 1) := by decide +kernel
theorem d_La_law_763 : decode b_La_law 763 = .ok (.iload 4, 2) := by decide +kernel
theorem d_La_law_765 : decode b_La_law 765 = .ok (.iconst 2, 1) := by decide +kernel
theorem d_La_law_766 : decode b_La_law 766 = .ok (.iadd, 1) := by decide +kernel
theorem d_La_law_767 : decode b_La_law 767 = .ok (.iaload, 1) := by decide +kernel
theorem d_La_law_768 : decode b_La_law 768 = .ok (.invokevirtual 121, 3) := by decide +kernel
theorem d_La_law_771 : decode b_La_law 771 = .ok (.istore 6, 2) := by decide +kernel
theorem d_La_law_773 : decode b_La_law 773 = .ok (.aload_n 2, 1) := by decide +kernel
theorem d_La_law_774 : decode b_La_law 774 = .ok (.invokevirtual 87, 3) := by decide +kernel
theorem d_La_law_777 : decode b_La_law 777 = .ok (.iload 5, 2) := by decide +kernel
theorem d_La_law_779 : decode b_La_law 779 = .ok (.if_icmp .eq 5, 3) := by decide +kernel
theorem d_La_law_782 : decode b_La_law 782 = .ok (.iconst 0, 1) := by decide +kernel
theorem d_La_law_783 : decode b_La_law 783 = .ok (.ireturn, 1) := by decide +kernel
theorem d_La_law_784 : decode b_La_law 784 = .ok (.iload 5, 2) := by decide +kernel
theorem d_La_law_786 : decode b_La_law 786 = .ok (.ifCond .ne 15, 3) := by decide +kernel
theorem d_La_law_789 : decode b_La_law 789 = .ok (.aload_n 3, 1) := by decide +kernel
theorem d_La_law_790 : decode b_La_law 790 = .ok (.iconst 0, 1) := by decide +kernel
theorem d_La_law_791 : decode b_La_law 791 = .ok (.laload, 1) := by decide +kernel
theorem d_La_law_792 : decode b_La_law 792 = .ok (.iload 6, 2) := by decide +kernel
theorem d_La_law_794 : decode b_La_law 794 = .ok (.i2l, 1) := by decide +kernel
theorem d_La_law_795 : decode b_La_law 795 = .ok (.lcmp, 1) := by decide +kernel
theorem d_La_law_796 : decode b_La_law 796 = .ok (.ifCond .eq 5, 3) := by decide +kernel
theorem d_La_law_799 : decode b_La_law 799 = .ok (.iconst 0, 1) := by decide +kernel
theorem d_La_law_800 : decode b_La_law 800 = .ok (.ireturn, 1) := by decide +kernel
theorem d_La_law_801 : decode b_La_law 801 = .ok (.goto 424, 3) := by decide +kernel
theorem d_La_law_804 : decode b_La_law 804 = .ok (.aload_n 1, 1) := by decide +kernel
theorem d_La_law_805 : decode b_La_law 805 = .ok (.aload_n 0, 1) := by decide +kernel
theorem d_La_law_806 : decode b_La_law 806 = .ok (.iload 4, 2) := by decide +kernel
theorem d_La_law_808 : decode b_La_law 808 = .ok (.iconst 1, 1) := by decide +kernel
theorem d_La_law_809 : decode b_La_law 809 = .ok (.iadd, 1) := by decide +kernel
theorem d_La_law_810 : decode b_La_law 810 = .ok (.iaload, 1) := by decide +kernel
theorem d_La_law_811 : decode b_La_law 811 = .ok (.invokestatic 122, 3) := by decide +kernel
theorem d_La_law_814 : decode b_La_law 814 = .ok (.istore 5, 2) := by decide +kernel
theorem d_La_law_816 : decode b_La_law 816 = .ok (.aload_n 2, 1) := by decide +kernel
theorem d_La_law_817 : decode b_La_law 817 = .ok (.aload_n 0, 1) := by decide +kernel
theorem d_La_law_818 : decode b_La_law 818 = .ok (.iload 4, 2) := by decide +kernel
theorem d_La_law_820 : decode b_La_law 820 = .ok (.iconst 1, 1) := by decide +kernel
theorem d_La_law_821 : decode b_La_law 821 = .ok (.iadd, 1) := by decide +kernel
theorem d_La_law_822 : decode b_La_law 822 = .ok (.iaload, 1) := by decide +kernel
theorem d_La_law_823 : decode b_La_law 823 = .ok (.invokevirtual 124, 3) := by decide +kernel
theorem d_La_law_826 : decode b_La_law 826 = .ok (.aload_n 2, 1) := by decide +kernel
theorem d_La_law_827 : decode b_La_law 827 = .ok (.invokevirtual 87, 3) := by decide +kernel
theorem d_La_law_830 : decode b_La_law 830 = .ok (.iload 5, 2) := by decide +kernel
theorem d_La_law_832 : decode b_La_law 832 = .ok (.if_icmp .eq 5, 3) := by decide +kernel
theorem d_La_law_835 : decode b_La_law 835 = .ok (.iconst 0, 1) := by decide +kernel
theorem d_La_law_836 : decode b_La_law 836 = .ok (.ireturn, 1) := by decide +kernel
theorem d_La_law_837 : decode b_La_law 837 = .ok (.goto 388, 3) := by decide +kernel
theorem d_La_law_840 : decode b_La_law 840 = .ok (.aload_n 1, 1) := by decide +kernel
theorem d_La_law_841 : decode b_La_law 841 = .ok (.aload_n 0, 1) := by decide +kernel
theorem d_La_law_842 : decode b_La_law 842 = .ok (.iload 4, 2) := by decide +kernel
theorem d_La_law_844 : decode b_La_law 844 = .ok (.iconst 1, 1) := by decide +kernel
theorem d_La_law_845 : decode b_La_law 845 = .ok (.iadd, 1) := by decide +kernel
theorem d_La_law_846 : decode b_La_law 846 = .ok (.iaload, 1) := by decide +kernel
theorem d_La_law_847 : decode b_La_law 847 = .ok (.aload_n 3, 1) := by decide +kernel
theorem d_La_law_848 : decode b_La_law 848 = .ok (.invokestatic 125, 3) := by decide +kernel
theorem d_La_law_851 : decode b_La_law 851 = .ok (.istore 5, 2) := by decide +kernel
theorem d_La_law_853 : decode b_La_law 853 = .ok (.aload_n 2, 1) := by decide +kernel
theorem d_La_law_854 : decode b_La_law 854 = .ok (.aload_n 0, 1) := by decide +kernel
theorem d_La_law_855 : decode b_La_law 855 = .ok (.iload 4, 2) := by decide +kernel
theorem d_La_law_857 : decode b_La_law 857 = .ok (.iconst 1, 1) := by decide +kernel
theorem d_La_law_858 : decode b_La_law 858 = .ok (.iadd, 1) := by decide +kernel
theorem d_La_law_859 : decode b_La_law 859 = .ok (.iaload, 1) := by decide +kernel
theorem d_La_law_860 : decode b_La_law 860 = .ok (.invokevirtual 127, 3) := by decide +kernel
theorem d_La_law_863 : decode b_La_law 863 = .ok (.istore 6, 2) := by decide +kernel
theorem d_La_law_865 : decode b_La_law 865 = .ok (.aload_n 2, 1) := by decide +kernel
theorem d_La_law_866 : decode b_La_law 866 = .ok (.invokevirtual 87, 3) := by decide +kernel
theorem d_La_law_869 : decode b_La_law 869 = .ok (.iload 5, 2) := by decide +kernel
theorem d_La_law_871 : decode b_La_law 871 = .ok (.if_icmp .eq 5, 3) := by decide +kernel
theorem d_La_law_874 : decode b_La_law 874 = .ok (.iconst 0, 1) := by decide +kernel
theorem d_La_law_875 : decode b_La_law 875 = .ok (.ireturn, 1) := by decide +kernel
theorem d_La_law_876 : decode b_La_law 876 = .ok (.iload 5, 2) := by decide +kernel
theorem d_La_law_878 : decode b_La_law 878 = .ok (.ifCond .ne 15, 3) := by decide +kernel
theorem d_La_law_881 : decode b_La_law 881 = .ok (.aload_n 3, 1) := by decide +kernel
theorem d_La_law_882 : decode b_La_law 882 = .ok (.iconst 0, 1) := by decide +kernel
theorem d_La_law_883 : decode b_La_law 883 = .ok (.laload, 1) := by decide +kernel
theorem d_La_law_884 : decode b_La_law 884 = .ok (.iload 6, 2) := by decide +kernel
theorem d_La_law_886 : decode b_La_law 886 = .ok (.i2l, 1) := by decide +kernel
theorem d_La_law_887 : decode b_La_law 887 = .ok (.lcmp, 1) := by decide +kernel
theorem d_La_law_888 : decode b_La_law 888 = .ok (.ifCond .eq 5, 3) := by decide +kernel
theorem d_La_law_891 : decode b_La_law 891 = .ok (.iconst 0, 1) := by decide +kernel
theorem d_La_law_892 : decode b_La_law 892 = .ok (.ireturn, 1) := by decide +kernel
theorem d_La_law_893 : decode b_La_law 893 = .ok (.goto 332, 3) := by decide +kernel
theorem d_La_law_896 : decode b_La_law 896 = .ok (.aload_n 1, 1) := by decide +kernel
theorem d_La_law_897 : decode b_La_law 897 = .ok (.aload_n 0, 1) := by decide +kernel
theorem d_La_law_898 : decode b_La_law 898 = .ok (.iload 4, 2) := by decide +kernel
theorem d_La_law_900 : decode b_La_law 900 = .ok (.iconst 1, 1) := by decide +kernel
theorem d_La_law_901 : decode b_La_law 901 = .ok (.iadd, 1) := by decide +kernel
theorem d_La_law_902 : decode b_La_law 902 = .ok (.iaload, 1) := by decide +kernel
theorem d_La_law_903 : decode b_La_law 903 = .ok (.aload_n 0, 1) := by decide +kernel
theorem d_La_law_904 : decode b_La_law 904 = .ok (.iload 4, 2) := by decide +kernel
theorem d_La_law_906 : decode b_La_law 906 = .ok (.iconst 2, 1) := by decide +kernel
theorem d_La_law_907 : decode b_La_law 907 = .ok (.iadd, 1) := by decide +kernel
theorem d_La_law_908 : decode b_La_law 908 = .ok (.iaload, 1) := by decide +kernel
theorem d_La_law_909 : decode b_La_law 909 = .ok (.aload_n 3, 1) := by decide +kernel
theorem d_La_law_910 : decode b_La_law 910 = .ok (.invokestatic 128, 3) := by decide +kernel
theorem d_La_law_913 : decode b_La_law 913 = .ok (.istore 5, 2) := by decide +kernel
theorem d_La_law_915 : decode b_La_law 915 = .ok (.aload_n 2, 1) := by decide +kernel
theorem d_La_law_916 : decode b_La_law 916 = .ok (.aload_n 0, 1) := by decide +kernel
theorem d_La_law_917 : decode b_La_law 917 = .ok (.iload 4, 2) := by decide +kernel
theorem d_La_law_919 : decode b_La_law 919 = .ok (.iconst 1, 1) := by decide +kernel
theorem d_La_law_920 : decode b_La_law 920 = .ok (.iadd, 1) := by decide +kernel
theorem d_La_law_921 : decode b_La_law 921 = .ok (.iaload, 1) := by decide +kernel
theorem d_La_law_922 : decode b_La_law 922 = .ok (.aload_n 0, 1) := by decide +kernel
theorem d_La_law_923 : decode b_La_law 923 = .ok (.iload 4, 2) := by decide +kernel
theorem d_La_law_925 : decode b_La_law 925 = .ok (.iconst 2, 1) := by decide +kernel
theorem d_La_law_926 : decode b_La_law 926 = .ok (.iadd, 1) := by decide +kernel
theorem d_La_law_927 : decode b_La_law 927 = .ok (.iaload, 1) := by decide +kernel
theorem d_La_law_928 : decode b_La_law 928 = .ok (.invokevirtual 130, 3) := by decide +kernel
theorem d_La_law_931 : decode b_La_law 931 = .ok (.istore 6, 2) := by decide +kernel
theorem d_La_law_933 : decode b_La_law 933 = .ok (.aload_n 2, 1) := by decide +kernel
theorem d_La_law_934 : decode b_La_law 934 = .ok (.invokevirtual 87, 3) := by decide +kernel
theorem d_La_law_937 : decode b_La_law 937 = .ok (.iload 5, 2) := by decide +kernel
theorem d_La_law_939 : decode b_La_law 939 = .ok (.if_icmp .eq 5, 3) := by decide +kernel
theorem d_La_law_942 : decode b_La_law 942 = .ok (.iconst 0, 1) := by decide +kernel
theorem d_La_law_943 : decode b_La_law 943 = .ok (.ireturn, 1) := by decide +kernel
theorem d_La_law_944 : decode b_La_law 944 = .ok (.iload 5, 2) := by decide +kernel
theorem d_La_law_946 : decode b_La_law 946 = .ok (.ifCond .ne 15, 3) := by decide +kernel
theorem d_La_law_949 : decode b_La_law 949 = .ok (.aload_n 3, 1) := by decide +kernel
theorem d_La_law_950 : decode b_La_law 950 = .ok (.iconst 0, 1) := by decide +kernel
theorem d_La_law_951 : decode b_La_law 951 = .ok (.laload, 1) := by decide +kernel
theorem d_La_law_952 : decode b_La_law 952 = .ok (.iload 6, 2) := by decide +kernel
theorem d_La_law_954 : decode b_La_law 954 = .ok (.i2l, 1) := by decide +kernel
theorem d_La_law_955 : decode b_La_law 955 = .ok (.lcmp, 1) := by decide +kernel
theorem d_La_law_956 : decode b_La_law 956 = .ok (.ifCond .eq 5, 3) := by decide +kernel
theorem d_La_law_959 : decode b_La_law 959 = .ok (.iconst 0, 1) := by decide +kernel
theorem d_La_law_960 : decode b_La_law 960 = .ok (.ireturn, 1) := by decide +kernel
theorem d_La_law_961 : decode b_La_law 961 = .ok (.goto 264, 3) := by decide +kernel
theorem d_La_law_964 : decode b_La_law 964 = .ok (.aload_n 1, 1) := by decide +kernel
theorem d_La_law_965 : decode b_La_law 965 = .ok (.aload_n 0, 1) := by decide +kernel
theorem d_La_law_966 : decode b_La_law 966 = .ok (.iload 4, 2) := by decide +kernel
theorem d_La_law_968 : decode b_La_law 968 = .ok (.iconst 1, 1) := by decide +kernel
theorem d_La_law_969 : decode b_La_law 969 = .ok (.iadd, 1) := by decide +kernel
theorem d_La_law_970 : decode b_La_law 970 = .ok (.iaload, 1) := by decide +kernel
theorem d_La_law_971 : decode b_La_law 971 = .ok (.aload_n 0, 1) := by decide +kernel
theorem d_La_law_972 : decode b_La_law 972 = .ok (.iload 4, 2) := by decide +kernel
theorem d_La_law_974 : decode b_La_law 974 = .ok (.iconst 2, 1) := by decide +kernel
theorem d_La_law_975 : decode b_La_law 975 = .ok (.iadd, 1) := by decide +kernel
theorem d_La_law_976 : decode b_La_law 976 = .ok (.iaload, 1) := by decide +kernel
theorem d_La_law_977 : decode b_La_law 977 = .ok (.aload_n 3, 1) := by decide +kernel
theorem d_La_law_978 : decode b_La_law 978 = .ok (.invokestatic 131, 3) := by decide +kernel
theorem d_La_law_981 : decode b_La_law 981 = .ok (.istore 5, 2) := by decide +kernel
theorem d_La_law_983 : decode b_La_law 983 = .ok (.aload_n 2, 1) := by decide +kernel
theorem d_La_law_984 : decode b_La_law 984 = .ok (.aload_n 0, 1) := by decide +kernel
theorem d_La_law_985 : decode b_La_law 985 = .ok (.iload 4, 2) := by decide +kernel
theorem d_La_law_987 : decode b_La_law 987 = .ok (.iconst 1, 1) := by decide +kernel
theorem d_La_law_988 : decode b_La_law 988 = .ok (.iadd, 1) := by decide +kernel
theorem d_La_law_989 : decode b_La_law 989 = .ok (.iaload, 1) := by decide +kernel
theorem d_La_law_990 : decode b_La_law 990 = .ok (.aload_n 0, 1) := by decide +kernel
theorem d_La_law_991 : decode b_La_law 991 = .ok (.iload 4, 2) := by decide +kernel
theorem d_La_law_993 : decode b_La_law 993 = .ok (.iconst 2, 1) := by decide +kernel
theorem d_La_law_994 : decode b_La_law 994 = .ok (.iadd, 1) := by decide +kernel
theorem d_La_law_995 : decode b_La_law 995 = .ok (.iaload, 1) := by decide +kernel
theorem d_La_law_996 : decode b_La_law 996 = .ok (.invokevirtual 133, 3) := by decide +kernel
theorem d_La_law_999 : decode b_La_law 999 = .ok (.istore 6, 2) := by decide +kernel
theorem d_La_law_1001 : decode b_La_law 1001 = .ok (.aload_n 2, 1) := by decide +kernel
theorem d_La_law_1002 : decode b_La_law 1002 = .ok (.invokevirtual 87, 3) := by decide +kernel
theorem d_La_law_1005 : decode b_La_law 1005 = .ok (.iload 5, 2) := by decide +kernel
theorem d_La_law_1007 : decode b_La_law 1007 = .ok (.if_icmp .eq 5, 3) := by decide +kernel
theorem d_La_law_1010 : decode b_La_law 1010 = .ok (.iconst 0, 1) := by decide +kernel
theorem d_La_law_1011 : decode b_La_law 1011 = .ok (.ireturn, 1) := by decide +kernel
theorem d_La_law_1012 : decode b_La_law 1012 = .ok (.iload 5, 2) := by decide +kernel
theorem d_La_law_1014 : decode b_La_law 1014 = .ok (.ifCond .ne 15, 3) := by decide +kernel
theorem d_La_law_1017 : decode b_La_law 1017 = .ok (.aload_n 3, 1) := by decide +kernel
theorem d_La_law_1018 : decode b_La_law 1018 = .ok (.iconst 0, 1) := by decide +kernel
theorem d_La_law_1019 : decode b_La_law 1019 = .ok (.laload, 1) := by decide +kernel
theorem d_La_law_1020 : decode b_La_law 1020 = .ok (.iload 6, 2) := by decide +kernel
theorem d_La_law_1022 : decode b_La_law 1022 = .ok (.i2l, 1) := by decide +kernel
theorem d_La_law_1023 : decode b_La_law 1023 = .ok (.lcmp, 1) := by decide +kernel
theorem d_La_law_1024 : decode b_La_law 1024 = .ok (.ifCond .eq 5, 3) := by decide +kernel
theorem d_La_law_1027 : decode b_La_law 1027 = .ok (.iconst 0, 1) := by decide +kernel
theorem d_La_law_1028 : decode b_La_law 1028 = .ok (.ireturn, 1) := by decide +kernel
theorem d_La_law_1029 : decode b_La_law 1029 = .ok (.goto 196, 3) := by decide +kernel
theorem d_La_law_1032 : decode b_La_law 1032 = .ok (.aload_n 1, 1) := by decide +kernel
theorem d_La_law_1033 : decode b_La_law 1033 = .ok (.aload_n 0, 1) := by decide +kernel
theorem d_La_law_1034 : decode b_La_law 1034 = .ok (.iload 4, 2) := by decide +kernel
theorem d_La_law_1036 : decode b_La_law 1036 = .ok (.iconst 1, 1) := by decide +kernel
theorem d_La_law_1037 : decode b_La_law 1037 = .ok (.iadd, 1) := by decide +kernel
theorem d_La_law_1038 : decode b_La_law 1038 = .ok (.iaload, 1) := by decide +kernel
theorem d_La_law_1039 : decode b_La_law 1039 = .ok (.aload_n 0, 1) := by decide +kernel
theorem d_La_law_1040 : decode b_La_law 1040 = .ok (.iload 4, 2) := by decide +kernel
theorem d_La_law_1042 : decode b_La_law 1042 = .ok (.iconst 2, 1) := by decide +kernel
theorem d_La_law_1043 : decode b_La_law 1043 = .ok (.iadd, 1) := by decide +kernel
theorem d_La_law_1044 : decode b_La_law 1044 = .ok (.iaload, 1) := by decide +kernel
theorem d_La_law_1045 : decode b_La_law 1045 = .ok (.aload_n 3, 1) := by decide +kernel
theorem d_La_law_1046 : decode b_La_law 1046 = .ok (.invokestatic 134, 3) := by decide +kernel
theorem d_La_law_1049 : decode b_La_law 1049 = .ok (.istore 5, 2) := by decide +kernel
theorem d_La_law_1051 : decode b_La_law 1051 = .ok (.aload_n 2, 1) := by decide +kernel
theorem d_La_law_1052 : decode b_La_law 1052 = .ok (.aload_n 0, 1) := by decide +kernel
theorem d_La_law_1053 : decode b_La_law 1053 = .ok (.iload 4, 2) := by decide +kernel
theorem d_La_law_1055 : decode b_La_law 1055 = .ok (.iconst 1, 1) := by decide +kernel
theorem d_La_law_1056 : decode b_La_law 1056 = .ok (.iadd, 1) := by decide +kernel
theorem d_La_law_1057 : decode b_La_law 1057 = .ok (.iaload, 1) := by decide +kernel
theorem d_La_law_1058 : decode b_La_law 1058 = .ok (.aload_n 0, 1) := by decide +kernel
theorem d_La_law_1059 : decode b_La_law 1059 = .ok (.iload 4, 2) := by decide +kernel
theorem d_La_law_1061 : decode b_La_law 1061 = .ok (.iconst 2, 1) := by decide +kernel
theorem d_La_law_1062 : decode b_La_law 1062 = .ok (.iadd, 1) := by decide +kernel
theorem d_La_law_1063 : decode b_La_law 1063 = .ok (.iaload, 1) := by decide +kernel
theorem d_La_law_1064 : decode b_La_law 1064 = .ok (.invokevirtual 136, 3) := by decide +kernel
theorem d_La_law_1067 : decode b_La_law 1067 = .ok (.istore 6, 2) := by decide +kernel
theorem d_La_law_1069 : decode b_La_law 1069 = .ok (.aload_n 2, 1) := by decide +kernel
theorem d_La_law_1070 : decode b_La_law 1070 = .ok (.invokevirtual 87, 3) := by decide +kernel
theorem d_La_law_1073 : decode b_La_law 1073 = .ok (.iload 5, 2) := by decide +kernel
theorem d_La_law_1075 : decode b_La_law 1075 = .ok (.if_icmp .eq 5, 3) := by decide +kernel
theorem d_La_law_1078 : decode b_La_law 1078 = .ok (.iconst 0, 1) := by decide +kernel
theorem d_La_law_1079 : decode b_La_law 1079 = .ok (.ireturn, 1) := by decide +kernel
theorem d_La_law_1080 : decode b_La_law 1080 = .ok (.iload 5, 2) := by decide +kernel
theorem d_La_law_1082 : decode b_La_law 1082 = .ok (.ifCond .ne 15, 3) := by decide +kernel
theorem d_La_law_1085 : decode b_La_law 1085 = .ok (.aload_n 3, 1) := by decide +kernel
theorem d_La_law_1086 : decode b_La_law 1086 = .ok (.iconst 0, 1) := by decide +kernel
theorem d_La_law_1087 : decode b_La_law 1087 = .ok (.laload, 1) := by decide +kernel
theorem d_La_law_1088 : decode b_La_law 1088 = .ok (.iload 6, 2) := by decide +kernel
theorem d_La_law_1090 : decode b_La_law 1090 = .ok (.i2l, 1) := by decide +kernel
theorem d_La_law_1091 : decode b_La_law 1091 = .ok (.lcmp, 1) := by decide +kernel
theorem d_La_law_1092 : decode b_La_law 1092 = .ok (.ifCond .eq 5, 3) := by decide +kernel
theorem d_La_law_1095 : decode b_La_law 1095 = .ok (.iconst 0, 1) := by decide +kernel
theorem d_La_law_1096 : decode b_La_law 1096 = .ok (.ireturn, 1) := by decide +kernel
theorem d_La_law_1097 : decode b_La_law 1097 = .ok (.goto 128, 3) := by decide +kernel
theorem d_La_law_1100 : decode b_La_law 1100 = .ok (.aload_n 1, 1) := by decide +kernel
theorem d_La_law_1101 : decode b_La_law 1101 = .ok (.aload_n 0, 1) := by decide +kernel
theorem d_La_law_1102 : decode b_La_law 1102 = .ok (.iload 4, 2) := by decide +kernel
theorem d_La_law_1104 : decode b_La_law 1104 = .ok (.iconst 1, 1) := by decide +kernel
theorem d_La_law_1105 : decode b_La_law 1105 = .ok (.iadd, 1) := by decide +kernel
theorem d_La_law_1106 : decode b_La_law 1106 = .ok (.iaload, 1) := by decide +kernel
theorem d_La_law_1107 : decode b_La_law 1107 = .ok (.aload_n 3, 1) := by decide +kernel
theorem d_La_law_1108 : decode b_La_law 1108 = .ok (.invokestatic 137, 3) := by decide +kernel
theorem d_La_law_1111 : decode b_La_law 1111 = .ok (.istore 5, 2) := by decide +kernel
theorem d_La_law_1113 : decode b_La_law 1113 = .ok (.aload_n 2, 1) := by decide +kernel
theorem d_La_law_1114 : decode b_La_law 1114 = .ok (.aload_n 0, 1) := by decide +kernel
theorem d_La_law_1115 : decode b_La_law 1115 = .ok (.iload 4, 2) := by decide +kernel
theorem d_La_law_1117 : decode b_La_law 1117 = .ok (.iconst 1, 1) := by decide +kernel
theorem d_La_law_1118 : decode b_La_law 1118 = .ok (.iadd, 1) := by decide +kernel
theorem d_La_law_1119 : decode b_La_law 1119 = .ok (.iaload, 1) := by decide +kernel
theorem d_La_law_1120 : decode b_La_law 1120 = .ok (.invokevirtual 139, 3) := by decide +kernel
theorem d_La_law_1123 : decode b_La_law 1123 = .ok (.istore 6, 2) := by decide +kernel
theorem d_La_law_1125 : decode b_La_law 1125 = .ok (.aload_n 2, 1) := by decide +kernel
theorem d_La_law_1126 : decode b_La_law 1126 = .ok (.invokevirtual 87, 3) := by decide +kernel
theorem d_La_law_1129 : decode b_La_law 1129 = .ok (.iload 5, 2) := by decide +kernel
theorem d_La_law_1131 : decode b_La_law 1131 = .ok (.if_icmp .eq 5, 3) := by decide +kernel
theorem d_La_law_1134 : decode b_La_law 1134 = .ok (.iconst 0, 1) := by decide +kernel
theorem d_La_law_1135 : decode b_La_law 1135 = .ok (.ireturn, 1) := by decide +kernel
theorem d_La_law_1136 : decode b_La_law 1136 = .ok (.iload 5, 2) := by decide +kernel
theorem d_La_law_1138 : decode b_La_law 1138 = .ok (.ifCond .ne 15, 3) := by decide +kernel
theorem d_La_law_1141 : decode b_La_law 1141 = .ok (.aload_n 3, 1) := by decide +kernel
theorem d_La_law_1142 : decode b_La_law 1142 = .ok (.iconst 0, 1) := by decide +kernel
theorem d_La_law_1143 : decode b_La_law 1143 = .ok (.laload, 1) := by decide +kernel
theorem d_La_law_1144 : decode b_La_law 1144 = .ok (.iload 6, 2) := by decide +kernel
theorem d_La_law_1146 : decode b_La_law 1146 = .ok (.i2l, 1) := by decide +kernel
theorem d_La_law_1147 : decode b_La_law 1147 = .ok (.lcmp, 1) := by decide +kernel
theorem d_La_law_1148 : decode b_La_law 1148 = .ok (.ifCond .eq 5, 3) := by decide +kernel
theorem d_La_law_1151 : decode b_La_law 1151 = .ok (.iconst 0, 1) := by decide +kernel
theorem d_La_law_1152 : decode b_La_law 1152 = .ok (.ireturn, 1) := by decide +kernel
theorem d_La_law_1153 : decode b_La_law 1153 = .ok (.goto 72, 3) := by decide +kernel
theorem d_La_law_1156 : decode b_La_law 1156 = .ok (.aload_n 1, 1) := by decide +kernel
theorem d_La_law_1157 : decode b_La_law 1157 = .ok (.aload_n 3, 1) := by decide +kernel
theorem d_La_law_1158 : decode b_La_law 1158 = .ok (.invokestatic 140, 3) := by decide +kernel
theorem d_La_law_1161 : decode b_La_law 1161 = .ok (.istore 5, 2) := by decide +kernel
theorem d_La_law_1163 : decode b_La_law 1163 = .ok (.aload_n 2, 1) := by decide +kernel
theorem d_La_law_1164 : decode b_La_law 1164 = .ok (.invokevirtual 143, 3) := by decide +kernel
theorem d_La_law_1167 : decode b_La_law 1167 = .ok (.istore 6, 2) := by decide +kernel
theorem d_La_law_1169 : decode b_La_law 1169 = .ok (.aload_n 2, 1) := by decide +kernel
theorem d_La_law_1170 : decode b_La_law 1170 = .ok (.invokevirtual 87, 3) := by decide +kernel
theorem d_La_law_1173 : decode b_La_law 1173 = .ok (.iload 5, 2) := by decide +kernel
theorem d_La_law_1175 : decode b_La_law 1175 = .ok (.if_icmp .eq 5, 3) := by decide +kernel
theorem d_La_law_1178 : decode b_La_law 1178 = .ok (.iconst 0, 1) := by decide +kernel
theorem d_La_law_1179 : decode b_La_law 1179 = .ok (.ireturn, 1) := by decide +kernel
theorem d_La_law_1180 : decode b_La_law 1180 = .ok (.iload 5, 2) := by decide +kernel
theorem d_La_law_1182 : decode b_La_law 1182 = .ok (.ifCond .ne 15, 3) := by decide +kernel
theorem d_La_law_1185 : decode b_La_law 1185 = .ok (.aload_n 3, 1) := by decide +kernel
theorem d_La_law_1186 : decode b_La_law 1186 = .ok (.iconst 0, 1) := by decide +kernel
theorem d_La_law_1187 : decode b_La_law 1187 = .ok (.laload, 1) := by decide +kernel
theorem d_La_law_1188 : decode b_La_law 1188 = .ok (.iload 6, 2) := by decide +kernel
theorem d_La_law_1190 : decode b_La_law 1190 = .ok (.i2l, 1) := by decide +kernel
theorem d_La_law_1191 : decode b_La_law 1191 = .ok (.lcmp, 1) := by decide +kernel
theorem d_La_law_1192 : decode b_La_law 1192 = .ok (.ifCond .eq 5, 3) := by decide +kernel
theorem d_La_law_1195 : decode b_La_law 1195 = .ok (.iconst 0, 1) := by decide +kernel
theorem d_La_law_1196 : decode b_La_law 1196 = .ok (.ireturn, 1) := by decide +kernel
theorem d_La_law_1197 : decode b_La_law 1197 = .ok (.goto 28, 3) := by decide +kernel
theorem d_La_law_1200 : decode b_La_law 1200 = .ok (.aload_n 1, 1) := by decide +kernel
theorem d_La_law_1201 : decode b_La_law 1201 = .ok (.aload_n 0, 1) := by decide +kernel
theorem d_La_law_1202 : decode b_La_law 1202 = .ok (.iload 4, 2) := by decide +kernel
theorem d_La_law_1204 : decode b_La_law 1204 = .ok (.iconst 1, 1) := by decide +kernel
theorem d_La_law_1205 : decode b_La_law 1205 = .ok (.iadd, 1) := by decide +kernel
theorem d_La_law_1206 : decode b_La_law 1206 = .ok (.iaload, 1) := by decide +kernel
theorem d_La_law_1207 : decode b_La_law 1207 = .ok (.invokevirtual 144, 3) := by decide +kernel
theorem d_La_law_1210 : decode b_La_law 1210 = .ok (.aload_n 2, 1) := by decide +kernel
theorem d_La_law_1211 : decode b_La_law 1211 = .ok (.aload_n 0, 1) := by decide +kernel
theorem d_La_law_1212 : decode b_La_law 1212 = .ok (.iload 4, 2) := by decide +kernel
theorem d_La_law_1214 : decode b_La_law 1214 = .ok (.iconst 1, 1) := by decide +kernel
theorem d_La_law_1215 : decode b_La_law 1215 = .ok (.iadd, 1) := by decide +kernel
theorem d_La_law_1216 : decode b_La_law 1216 = .ok (.iaload, 1) := by decide +kernel
theorem d_La_law_1217 : decode b_La_law 1217 = .ok (.invokevirtual 147, 3) := by decide +kernel
theorem d_La_law_1220 : decode b_La_law 1220 = .ok (.if_icmp .eq 5, 3) := by decide +kernel
theorem d_La_law_1223 : decode b_La_law 1223 = .ok (.iconst 0, 1) := by decide +kernel
theorem d_La_law_1224 : decode b_La_law 1224 = .ok (.ireturn, 1) := by decide +kernel
theorem d_La_law_1225 : decode b_La_law 1225 = .ok (.iinc 4 5, 3) := by decide +kernel
theorem d_La_law_1228 : decode b_La_law 1228 = .ok (.goto (-1205), 3) := by decide +kernel
theorem d_La_law_1231 : decode b_La_law 1231 = .ok (.iconst 1, 1) := by decide +kernel
theorem d_La_law_1232 : decode b_La_law 1232 = .ok (.ireturn, 1) := by decide +kernel
