abbrev M_Lw : ev_M := (⟨"PostingShelfLaw", "law", "([I)Z"⟩, code, 4, ret, 15, 578)
theorem d_La_law_0 : decode code 0 = .ok (.new 7, 3) := by decide +kernel
theorem d_La_law_3 : decode code 3 = .ok (.dup, 1) := by decide +kernel
theorem d_La_law_4 : decode code 4 = .ok (.invokespecial 9, 3) := by decide +kernel
theorem d_La_law_7 : decode code 7 = .ok (.astore_n 1, 1) := by decide +kernel
theorem d_La_law_8 : decode code 8 = .ok (.new 10, 3) := by decide +kernel
theorem d_La_law_11 : decode code 11 = .ok (.dup, 1) := by decide +kernel
theorem d_La_law_12 : decode code 12 = .ok (.invokespecial 12, 3) := by decide +kernel
theorem d_La_law_15 : decode code 15 = .ok (.astore_n 2, 1) := by decide +kernel
theorem d_La_law_16 : decode code 16 = .ok (.iconst 0, 1) := by decide +kernel
theorem d_La_law_17 : decode code 17 = .ok (.istore_n 3, 1) := by decide +kernel
theorem d_La_law_18 : decode code 18 = .ok (.iload_n 3, 1) := by decide +kernel
theorem d_La_law_19 : decode code 19 = .ok (.aload_n 0, 1) := by decide +kernel
theorem d_La_law_20 : decode code 20 = .ok (.arraylength, 1) := by decide +kernel
theorem d_La_law_21 : decode code 21 = .ok (.iconst 3, 1) := by decide +kernel
theorem d_La_law_22 : decode code 22 = .ok (.isub, 1) := by decide +kernel
theorem d_La_law_23 : decode code 23 = .ok (.if_icmp .gt 541, 3) := by decide +kernel
theorem d_La_law_26 : decode code 26 = .ok (.aload_n 0, 1) := by decide +kernel
theorem d_La_law_27 : decode code 27 = .ok (.iload_n 3, 1) := by decide +kernel
theorem d_La_law_28 : decode code 28 = .ok (.iaload, 1) := by decide +kernel
theorem d_La_law_29 : decode code 29 = .ok (.bipush 31, 2) := by decide +kernel
theorem d_La_law_31 : decode code 31 = .ok (.iand, 1) := by decide +kernel
theorem d_La_law_32 : decode code 32 = .ok (.tableswitch 526 0 16 #[84, 138, 191, 214, 237, 250, 273, 296, 309, 362, 385, 408, 421, 444, 467, 490, 503], 84) := by decide +kernel
theorem d_La_law_116 : decode code 116 = .ok (.aload_n 1, 1) := by decide +kernel
theorem d_La_law_117 : decode code 117 = .ok (.aload_n 0, 1) := by decide +kernel
theorem d_La_law_118 : decode code 118 = .ok (.iload_n 3, 1) := by decide +kernel
theorem d_La_law_119 : decode code 119 = .ok (.iconst 1, 1) := by decide +kernel
theorem d_La_law_120 : decode code 120 = .ok (.iadd, 1) := by decide +kernel
theorem d_La_law_121 : decode code 121 = .ok (.iaload, 1) := by decide +kernel
theorem d_La_law_122 : decode code 122 = .ok (.i2l, 1) := by decide +kernel
theorem d_La_law_123 : decode code 123 = .ok (.bipush 32, 2) := by decide +kernel
theorem d_La_law_125 : decode code 125 = .ok (.lshl, 1) := by decide +kernel
theorem d_La_law_126 : decode code 126 = .ok (.aload_n 0, 1) := by decide +kernel
theorem d_La_law_127 : decode code 127 = .ok (.iload_n 3, 1) := by decide +kernel
theorem d_La_law_128 : decode code 128 = .ok (.iconst 2, 1) := by decide +kernel
theorem d_La_law_129 : decode code 129 = .ok (.iadd, 1) := by decide +kernel
theorem d_La_law_130 : decode code 130 = .ok (.iaload, 1) := by decide +kernel
theorem d_La_law_131 : decode code 131 = .ok (.i2l, 1) := by decide +kernel
theorem d_La_law_132 : decode code 132 = .ok (.ldc2_w 13, 3) := by decide +kernel
theorem d_La_law_135 : decode code 135 = .ok (.land, 1) := by decide +kernel
theorem d_La_law_136 : decode code 136 = .ok (.lor, 1) := by decide +kernel
theorem d_La_law_137 : decode code 137 = .ok (.invokevirtual 15, 3) := by decide +kernel
theorem d_La_law_140 : decode code 140 = .ok (.aload_n 2, 1) := by decide +kernel
theorem d_La_law_141 : decode code 141 = .ok (.aload_n 0, 1) := by decide +kernel
theorem d_La_law_142 : decode code 142 = .ok (.iload_n 3, 1) := by decide +kernel
theorem d_La_law_143 : decode code 143 = .ok (.iconst 1, 1) := by decide +kernel
theorem d_La_law_144 : decode code 144 = .ok (.iadd, 1) := by decide +kernel
theorem d_La_law_145 : decode code 145 = .ok (.iaload, 1) := by decide +kernel
theorem d_La_law_146 : decode code 146 = .ok (.i2l, 1) := by decide +kernel
theorem d_La_law_147 : decode code 147 = .ok (.bipush 32, 2) := by decide +kernel
theorem d_La_law_149 : decode code 149 = .ok (.lshl, 1) := by decide +kernel
theorem d_La_law_150 : decode code 150 = .ok (.aload_n 0, 1) := by decide +kernel
theorem d_La_law_151 : decode code 151 = .ok (.iload_n 3, 1) := by decide +kernel
theorem d_La_law_152 : decode code 152 = .ok (.iconst 2, 1) := by decide +kernel
theorem d_La_law_153 : decode code 153 = .ok (.iadd, 1) := by decide +kernel
theorem d_La_law_154 : decode code 154 = .ok (.iaload, 1) := by decide +kernel
theorem d_La_law_155 : decode code 155 = .ok (.i2l, 1) := by decide +kernel
theorem d_La_law_156 : decode code 156 = .ok (.ldc2_w 13, 3) := by decide +kernel
theorem d_La_law_159 : decode code 159 = .ok (.land, 1) := by decide +kernel
theorem d_La_law_160 : decode code 160 = .ok (.lor, 1) := by decide +kernel
theorem d_La_law_161 : decode code 161 = .ok (.invokevirtual 19, 3) := by decide +kernel
theorem d_La_law_164 : decode code 164 = .ok (.lcmp, 1) := by decide +kernel
theorem d_La_law_165 : decode code 165 = .ok (.ifCond .eq 393, 3) := by decide +kernel
theorem d_La_law_168 : decode code 168 = .ok (.iconst 0, 1) := by decide +kernel
theorem d_La_law_169 : decode code 169 = .ok (.ireturn, 1) := by decide +kernel
theorem d_La_law_170 : decode code 170 = .ok (.aload_n 1, 1) := by decide +kernel
theorem d_La_law_171 : decode code 171 = .ok (.aload_n 0, 1) := by decide +kernel
theorem d_La_law_172 : decode code 172 = .ok (.iload_n 3, 1) := by decide +kernel
theorem d_La_law_173 : decode code 173 = .ok (.iconst 1, 1) := by decide +kernel
theorem d_La_law_174 : decode code 174 = .ok (.iadd, 1) := by decide +kernel
theorem d_La_law_175 : decode code 175 = .ok (.iaload, 1) := by decide +kernel
theorem d_La_law_176 : decode code 176 = .ok (.i2l, 1) := by decide +kernel
theorem d_La_law_177 : decode code 177 = .ok (.bipush 32, 2) := by decide +kernel
theorem d_La_law_179 : decode code 179 = .ok (.lshl, 1) := by decide +kernel
theorem d_La_law_180 : decode code 180 = .ok (.aload_n 0, 1) := by decide +kernel
theorem d_La_law_181 : decode code 181 = .ok (.iload_n 3, 1) := by decide +kernel
theorem d_La_law_182 : decode code 182 = .ok (.iconst 2, 1) := by decide +kernel
theorem d_La_law_183 : decode code 183 = .ok (.iadd, 1) := by decide +kernel
theorem d_La_law_184 : decode code 184 = .ok (.iaload, 1) := by decide +kernel
theorem d_La_law_185 : decode code 185 = .ok (.i2l, 1) := by decide +kernel
theorem d_La_law_186 : decode code 186 = .ok (.ldc2_w 13, 3) := by decide +kernel
theorem d_La_law_189 : decode code 189 = .ok (.land, 1) := by decide +kernel
theorem d_La_law_190 : decode code 190 = .ok (.lor, 1) := by decide +kernel
theorem d_La_law_191 : decode code 191 = .ok (.invokevirtual 20, 3) := by decide +kernel
theorem d_La_law_194 : decode code 194 = .ok (.aload_n 2, 1) := by decide +kernel
theorem d_La_law_195 : decode code 195 = .ok (.aload_n 0, 1) := by decide +kernel
theorem d_La_law_196 : decode code 196 = .ok (.iload_n 3, 1) := by decide +kernel
theorem d_La_law_197 : decode code 197 = .ok (.iconst 1, 1) := by decide +kernel
theorem d_La_law_198 : decode code 198 = .ok (.iadd, 1) := by decide +kernel
theorem d_La_law_199 : decode code 199 = .ok (.iaload, 1) := by decide +kernel
theorem d_La_law_200 : decode code 200 = .ok (.i2l, 1) := by decide +kernel
theorem d_La_law_201 : decode code 201 = .ok (.bipush 32, 2) := by decide +kernel
theorem d_La_law_203 : decode code 203 = .ok (.lshl, 1) := by decide +kernel
theorem d_La_law_204 : decode code 204 = .ok (.aload_n 0, 1) := by decide +kernel
theorem d_La_law_205 : decode code 205 = .ok (.iload_n 3, 1) := by decide +kernel
theorem d_La_law_206 : decode code 206 = .ok (.iconst 2, 1) := by decide +kernel
theorem d_La_law_207 : decode code 207 = .ok (.iadd, 1) := by decide +kernel
theorem d_La_law_208 : decode code 208 = .ok (.iaload, 1) := by decide +kernel
theorem d_La_law_209 : decode code 209 = .ok (.i2l, 1) := by decide +kernel
theorem d_La_law_210 : decode code 210 = .ok (.ldc2_w 13, 3) := by decide +kernel
theorem d_La_law_213 : decode code 213 = .ok (.land, 1) := by decide +kernel
theorem d_La_law_214 : decode code 214 = .ok (.lor, 1) := by decide +kernel
theorem d_La_law_215 : decode code 215 = .ok (.invokevirtual 24, 3) := by decide +kernel
theorem d_La_law_218 : decode code 218 = .ok (.if_icmp .eq 340, 3) := by decide +kernel
theorem d_La_law_221 : decode code 221 = .ok (.iconst 0, 1) := by decide +kernel
theorem d_La_law_222 : decode code 222 = .ok (.ireturn, 1) := by decide +kernel
theorem d_La_law_223 : decode code 223 = .ok (.aload_n 1, 1) := by decide +kernel
theorem d_La_law_224 : decode code 224 = .ok (.aload_n 0, 1) := by decide +kernel
theorem d_La_law_225 : decode code 225 = .ok (.iload_n 3, 1) := by decide +kernel
theorem d_La_law_226 : decode code 226 = .ok (.iconst 1, 1) := by decide +kernel
theorem d_La_law_227 : decode code 227 = .ok (.iadd, 1) := by decide +kernel
theorem d_La_law_228 : decode code 228 = .ok (.iaload, 1) := by decide +kernel
theorem d_La_law_229 : decode code 229 = .ok (.invokevirtual 25, 3) := by decide +kernel
theorem d_La_law_232 : decode code 232 = .ok (.aload_n 2, 1) := by decide +kernel
theorem d_La_law_233 : decode code 233 = .ok (.aload_n 0, 1) := by decide +kernel
theorem d_La_law_234 : decode code 234 = .ok (.iload_n 3, 1) := by decide +kernel
theorem d_La_law_235 : decode code 235 = .ok (.iconst 1, 1) := by decide +kernel
theorem d_La_law_236 : decode code 236 = .ok (.iadd, 1) := by decide +kernel
theorem d_La_law_237 : decode code 237 = .ok (.iaload, 1) := by decide +kernel
theorem d_La_law_238 : decode code 238 = .ok (.invokevirtual 29, 3) := by decide +kernel
theorem d_La_law_241 : decode code 241 = .ok (.if_icmp .eq 317, 3) := by decide +kernel
theorem d_La_law_244 : decode code 244 = .ok (.iconst 0, 1) := by decide +kernel
theorem d_La_law_245 : decode code 245 = .ok (.ireturn, 1) := by decide +kernel
theorem d_La_law_246 : decode code 246 = .ok (.aload_n 1, 1) := by decide +kernel
theorem d_La_law_247 : decode code 247 = .ok (.aload_n 0, 1) := by decide +kernel
theorem d_La_law_248 : decode code 248 = .ok (.iload_n 3, 1) := by decide +kernel
theorem d_La_law_249 : decode code 249 = .ok (.iconst 1, 1) := by decide +kernel
theorem d_La_law_250 : decode code 250 = .ok (.iadd, 1) := by decide +kernel
theorem d_La_law_251 : decode code 251 = .ok (.iaload, 1) := by decide +kernel
theorem d_La_law_252 : decode code 252 = .ok (.invokevirtual 30, 3) := by decide +kernel
theorem d_La_law_255 : decode code 255 = .ok (.aload_n 2, 1) := by decide +kernel
theorem d_La_law_256 : decode code 256 = .ok (.aload_n 0, 1) := by decide +kernel
theorem d_La_law_257 : decode code 257 = .ok (.iload_n 3, 1) := by decide +kernel
theorem d_La_law_258 : decode code 258 = .ok (.iconst 1, 1) := by decide +kernel
theorem d_La_law_259 : decode code 259 = .ok (.iadd, 1) := by decide +kernel
theorem d_La_law_260 : decode code 260 = .ok (.iaload, 1) := by decide +kernel
theorem d_La_law_261 : decode code 261 = .ok (.invokevirtual 33, 3) := by decide +kernel
theorem d_La_law_264 : decode code 264 = .ok (.if_icmp .eq 294, 3) := by decide +kernel
theorem d_La_law_267 : decode code 267 = .ok (.iconst 0, 1) := by decide +kernel
theorem d_La_law_268 : decode code 268 = .ok (.ireturn, 1) := by decide +kernel
theorem d_La_law_269 : decode code 269 = .ok (.aload_n 1, 1) := by decide +kernel
theorem d_La_law_270 : decode code 270 = .ok (.invokevirtual 34, 3) := by decide +kernel
theorem d_La_law_273 : decode code 273 = .ok (.aload_n 2, 1) := by decide +kernel
theorem d_La_law_274 : decode code 274 = .ok (.invokevirtual 38, 3) := by decide +kernel
theorem d_La_law_277 : decode code 277 = .ok (.if_icmp .eq 281, 3) := by decide +kernel
theorem d_La_law_280 : decode code 280 = .ok (.iconst 0, 1) := by decide +kernel
theorem d_La_law_281 : decode code 281 = .ok (.ireturn, 1) := by decide +kernel
theorem d_La_law_282 : decode code 282 = .ok (.aload_n 1, 1) := by decide +kernel
theorem d_La_law_283 : decode code 283 = .ok (.aload_n 0, 1) := by decide +kernel
theorem d_La_law_284 : decode code 284 = .ok (.iload_n 3, 1) := by decide +kernel
theorem d_La_law_285 : decode code 285 = .ok (.iconst 1, 1) := by decide +kernel
theorem d_La_law_286 : decode code 286 = .ok (.iadd, 1) := by decide +kernel
theorem d_La_law_287 : decode code 287 = .ok (.iaload, 1) := by decide +kernel
theorem d_La_law_288 : decode code 288 = .ok (.invokevirtual 39, 3) := by decide +kernel
theorem d_La_law_291 : decode code 291 = .ok (.aload_n 2, 1) := by decide +kernel
theorem d_La_law_292 : decode code 292 = .ok (.aload_n 0, 1) := by decide +kernel
theorem d_La_law_293 : decode code 293 = .ok (.iload_n 3, 1) := by decide +kernel
theorem d_La_law_294 : decode code 294 = .ok (.iconst 1, 1) := by decide +kernel
theorem d_La_law_295 : decode code 295 = .ok (.iadd, 1) := by decide +kernel
theorem d_La_law_296 : decode code 296 = .ok (.iaload, 1) := by decide +kernel
theorem d_La_law_297 : decode code 297 = .ok (.invokevirtual 42, 3) := by decide +kernel
theorem d_La_law_300 : decode code 300 = .ok (.if_icmp .eq 258, 3) := by decide +kernel
theorem d_La_law_303 : decode code 303 = .ok (.iconst 0, 1) := by decide +kernel
theorem d_La_law_304 : decode code 304 = .ok (.ireturn, 1) := by decide +kernel
theorem d_La_law_305 : decode code 305 = .ok (.aload_n 1, 1) := by decide +kernel
theorem d_La_law_306 : decode code 306 = .ok (.aload_n 0, 1) := by decide +kernel
theorem d_La_law_307 : decode code 307 = .ok (.iload_n 3, 1) := by decide +kernel
theorem d_La_law_308 : decode code 308 = .ok (.iconst 1, 1) := by decide +kernel
theorem d_La_law_309 : decode code 309 = .ok (.iadd, 1) := by decide +kernel
theorem d_La_law_310 : decode code 310 = .ok (.iaload, 1) := by decide +kernel
theorem d_La_law_311 : decode code 311 = .ok (.invokevirtual 43, 3) := by decide +kernel
theorem d_La_law_314 : decode code 314 = .ok (.aload_n 2, 1) := by decide +kernel
theorem d_La_law_315 : decode code 315 = .ok (.aload_n 0, 1) := by decide +kernel
theorem d_La_law_316 : decode code 316 = .ok (.iload_n 3, 1) := by decide +kernel
theorem d_La_law_317 : decode code 317 = .ok (.iconst 1, 1) := by decide +kernel
theorem d_La_law_318 : decode code 318 = .ok (.iadd, 1) := by decide +kernel
theorem d_La_law_319 : decode code 319 = .ok (.iaload, 1) := by decide +kernel
theorem d_La_law_320 : decode code 320 = .ok (.invokevirtual 47, 3) := by decide +kernel
theorem d_La_law_323 : decode code 323 = .ok (.if_icmp .eq 235, 3) := by decide +kernel
theorem d_La_law_326 : decode code 326 = .ok (.iconst 0, 1) := by decide +kernel
theorem d_La_law_327 : decode code 327 = .ok (.ireturn, 1) := by decide +kernel
theorem d_La_law_328 : decode code 328 = .ok (.aload_n 1, 1) := by decide +kernel
theorem d_La_law_329 : decode code 329 = .ok (.invokevirtual 48, 3) := by decide +kernel
theorem d_La_law_332 : decode code 332 = .ok (.aload_n 2, 1) := by decide +kernel
theorem d_La_law_333 : decode code 333 = .ok (.invokevirtual 52, 3) := by decide +kernel
theorem d_La_law_336 : decode code 336 = .ok (.if_icmp .eq 222, 3) := by decide +kernel
theorem d_La_law_339 : decode code 339 = .ok (.iconst 0, 1) := by decide +kernel
theorem d_La_law_340 : decode code 340 = .ok (.ireturn, 1) := by decide +kernel
theorem d_La_law_341 : decode code 341 = .ok (.aload_n 1, 1) := by decide +kernel
theorem d_La_law_342 : decode code 342 = .ok (.aload_n 0, 1) := by decide +kernel
theorem d_La_law_343 : decode code 343 = .ok (.iload_n 3, 1) := by decide +kernel
theorem d_La_law_344 : decode code 344 = .ok (.iconst 1, 1) := by decide +kernel
theorem d_La_law_345 : decode code 345 = .ok (.iadd, 1) := by decide +kernel
theorem d_La_law_346 : decode code 346 = .ok (.iaload, 1) := by decide +kernel
theorem d_La_law_347 : decode code 347 = .ok (.i2l, 1) := by decide +kernel
theorem d_La_law_348 : decode code 348 = .ok (.bipush 32, 2) := by decide +kernel
theorem d_La_law_350 : decode code 350 = .ok (.lshl, 1) := by decide +kernel
theorem d_La_law_351 : decode code 351 = .ok (.aload_n 0, 1) := by decide +kernel
theorem d_La_law_352 : decode code 352 = .ok (.iload_n 3, 1) := by decide +kernel
theorem d_La_law_353 : decode code 353 = .ok (.iconst 2, 1) := by decide +kernel
theorem d_La_law_354 : decode code 354 = .ok (.iadd, 1) := by decide +kernel
theorem d_La_law_355 : decode code 355 = .ok (.iaload, 1) := by decide +kernel
theorem d_La_law_356 : decode code 356 = .ok (.i2l, 1) := by decide +kernel
theorem d_La_law_357 : decode code 357 = .ok (.ldc2_w 13, 3) := by decide +kernel
theorem d_La_law_360 : decode code 360 = .ok (.land, 1) := by decide +kernel
theorem d_La_law_361 : decode code 361 = .ok (.lor, 1) := by decide +kernel
theorem d_La_law_362 : decode code 362 = .ok (.invokevirtual 53, 3) := by decide +kernel
theorem d_La_law_365 : decode code 365 = .ok (.aload_n 2, 1) := by decide +kernel
theorem d_La_law_366 : decode code 366 = .ok (.aload_n 0, 1) := by decide +kernel
theorem d_La_law_367 : decode code 367 = .ok (.iload_n 3, 1) := by decide +kernel
theorem d_La_law_368 : decode code 368 = .ok (.iconst 1, 1) := by decide +kernel
theorem d_La_law_369 : decode code 369 = .ok (.iadd, 1) := by decide +kernel
theorem d_La_law_370 : decode code 370 = .ok (.iaload, 1) := by decide +kernel
theorem d_La_law_371 : decode code 371 = .ok (.i2l, 1) := by decide +kernel
theorem d_La_law_372 : decode code 372 = .ok (.bipush 32, 2) := by decide +kernel
theorem d_La_law_374 : decode code 374 = .ok (.lshl, 1) := by decide +kernel
theorem d_La_law_375 : decode code 375 = .ok (.aload_n 0, 1) := by decide +kernel
theorem d_La_law_376 : decode code 376 = .ok (.iload_n 3, 1) := by decide +kernel
theorem d_La_law_377 : decode code 377 = .ok (.iconst 2, 1) := by decide +kernel
theorem d_La_law_378 : decode code 378 = .ok (.iadd, 1) := by decide +kernel
theorem d_La_law_379 : decode code 379 = .ok (.iaload, 1) := by decide +kernel
theorem d_La_law_380 : decode code 380 = .ok (.i2l, 1) := by decide +kernel
theorem d_La_law_381 : decode code 381 = .ok (.ldc2_w 13, 3) := by decide +kernel
theorem d_La_law_384 : decode code 384 = .ok (.land, 1) := by decide +kernel
theorem d_La_law_385 : decode code 385 = .ok (.lor, 1) := by decide +kernel
theorem d_La_law_386 : decode code 386 = .ok (.invokevirtual 56, 3) := by decide +kernel
theorem d_La_law_389 : decode code 389 = .ok (.if_icmp .eq 169, 3) := by decide +kernel
theorem d_La_law_392 : decode code 392 = .ok (.iconst 0, 1) := by decide +kernel
theorem d_La_law_393 : decode code 393 = .ok (.ireturn, 1) := by decide +kernel
theorem d_La_law_394 : decode code 394 = .ok (.aload_n 1, 1) := by decide +kernel
theorem d_La_law_395 : decode code 395 = .ok (.aload_n 0, 1) := by decide +kernel
theorem d_La_law_396 : decode code 396 = .ok (.iload_n 3, 1) := by decide +kernel
theorem d_La_law_397 : decode code 397 = .ok (.iconst 1, 1) := by decide +kernel
theorem d_La_law_398 : decode code 398 = .ok (.iadd, 1) := by decide +kernel
theorem d_La_law_399 : decode code 399 = .ok (.iaload, 1) := by decide +kernel
theorem d_La_law_400 : decode code 400 = .ok (.invokevirtual 57, 3) := by decide +kernel
theorem d_La_law_403 : decode code 403 = .ok (.aload_n 2, 1) := by decide +kernel
theorem d_La_law_404 : decode code 404 = .ok (.aload_n 0, 1) := by decide +kernel
theorem d_La_law_405 : decode code 405 = .ok (.iload_n 3, 1) := by decide +kernel
theorem d_La_law_406 : decode code 406 = .ok (.iconst 1, 1) := by decide +kernel
theorem d_La_law_407 : decode code 407 = .ok (.iadd, 1) := by decide +kernel
theorem d_La_law_408 : decode code 408 = .ok (.iaload, 1) := by decide +kernel
theorem d_La_law_409 : decode code 409 = .ok (.invokevirtual 60, 3) := by decide +kernel
theorem d_La_law_412 : decode code 412 = .ok (.if_icmp .eq 146, 3) := by decide +kernel
theorem d_La_law_415 : decode code 415 = .ok (.iconst 0, 1) := by decide +kernel
theorem d_La_law_416 : decode code 416 = .ok (.ireturn, 1) := by decide +kernel
theorem d_La_law_417 : decode code 417 = .ok (.aload_n 1, 1) := by decide +kernel
theorem d_La_law_418 : decode code 418 = .ok (.aload_n 0, 1) := by decide +kernel
theorem d_La_law_419 : decode code 419 = .ok (.iload_n 3, 1) := by decide +kernel
theorem d_La_law_420 : decode code 420 = .ok (.iconst 1, 1) := by decide +kernel
theorem d_La_law_421 : decode code 421 = .ok (.iadd, 1) := by decide +kernel
theorem d_La_law_422 : decode code 422 = .ok (.iaload, 1) := by decide +kernel
theorem d_La_law_423 : decode code 423 = .ok (.invokevirtual 61, 3) := by decide +kernel
theorem d_La_law_426 : decode code 426 = .ok (.aload_n 2, 1) := by decide +kernel
theorem d_La_law_427 : decode code 427 = .ok (.aload_n 0, 1) := by decide +kernel
theorem d_La_law_428 : decode code 428 = .ok (.iload_n 3, 1) := by decide +kernel
theorem d_La_law_429 : decode code 429 = .ok (.iconst 1, 1) := by decide +kernel
theorem d_La_law_430 : decode code 430 = .ok (.iadd, 1) := by decide +kernel
theorem d_La_law_431 : decode code 431 = .ok (.iaload, 1) := by decide +kernel
theorem d_La_law_432 : decode code 432 = .ok (.invokevirtual 64, 3) := by decide +kernel
theorem d_La_law_435 : decode code 435 = .ok (.if_icmp .eq 123, 3) := by decide +kernel
theorem d_La_law_438 : decode code 438 = .ok (.iconst 0, 1) := by decide +kernel
theorem d_La_law_439 : decode code 439 = .ok (.ireturn, 1) := by decide +kernel
theorem d_La_law_440 : decode code 440 = .ok (.aload_n 1, 1) := by decide +kernel
theorem d_La_law_441 : decode code 441 = .ok (.invokevirtual 65, 3) := by decide +kernel
theorem d_La_law_444 : decode code 444 = .ok (.aload_n 2, 1) := by decide +kernel
theorem d_La_law_445 : decode code 445 = .ok (.invokevirtual 68, 3) := by decide +kernel
theorem d_La_law_448 : decode code 448 = .ok (.if_icmp .eq 110, 3) := by decide +kernel
theorem d_La_law_451 : decode code 451 = .ok (.iconst 0, 1) := by decide +kernel
theorem d_La_law_452 : decode code 452 = .ok (.ireturn, 1) := by decide +kernel
theorem d_La_law_453 : decode code 453 = .ok (.aload_n 1, 1) := by decide +kernel
theorem d_La_law_454 : decode code 454 = .ok (.aload_n 0, 1) := by decide +kernel
theorem d_La_law_455 : decode code 455 = .ok (.iload_n 3, 1) := by decide +kernel
theorem d_La_law_456 : decode code 456 = .ok (.iconst 1, 1) := by decide +kernel
theorem d_La_law_457 : decode code 457 = .ok (.iadd, 1) := by decide +kernel
theorem d_La_law_458 : decode code 458 = .ok (.iaload, 1) := by decide +kernel
theorem d_La_law_459 : decode code 459 = .ok (.invokevirtual 69, 3) := by decide +kernel
theorem d_La_law_462 : decode code 462 = .ok (.aload_n 2, 1) := by decide +kernel
theorem d_La_law_463 : decode code 463 = .ok (.aload_n 0, 1) := by decide +kernel
theorem d_La_law_464 : decode code 464 = .ok (.iload_n 3, 1) := by decide +kernel
theorem d_La_law_465 : decode code 465 = .ok (.iconst 1, 1) := by decide +kernel
theorem d_La_law_466 : decode code 466 = .ok (.iadd, 1) := by decide +kernel
theorem d_La_law_467 : decode code 467 = .ok (.iaload, 1) := by decide +kernel
theorem d_La_law_468 : decode code 468 = .ok (.invokevirtual 72, 3) := by decide +kernel
theorem d_La_law_471 : decode code 471 = .ok (.if_icmp .eq 87, 3) := by decide +kernel
theorem d_La_law_474 : decode code 474 = .ok (.iconst 0, 1) := by decide +kernel
theorem d_La_law_475 : decode code 475 = .ok (.ireturn, 1) := by decide +kernel
theorem d_La_law_476 : decode code 476 = .ok (.aload_n 1, 1) := by decide +kernel
theorem d_La_law_477 : decode code 477 = .ok (.aload_n 0, 1) := by decide +kernel
theorem d_La_law_478 : decode code 478 = .ok (.iload_n 3, 1) := by decide +kernel
theorem d_La_law_479 : decode code 479 = .ok (.iconst 1, 1) := by decide +kernel
theorem d_La_law_480 : decode code 480 = .ok (.iadd, 1) := by decide +kernel
theorem d_La_law_481 : decode code 481 = .ok (.iaload, 1) := by decide +kernel
theorem d_La_law_482 : decode code 482 = .ok (.invokevirtual 73, 3) := by decide +kernel
theorem d_La_law_485 : decode code 485 = .ok (.aload_n 2, 1) := by decide +kernel
theorem d_La_law_486 : decode code 486 = .ok (.aload_n 0, 1) := by decide +kernel
theorem d_La_law_487 : decode code 487 = .ok (.iload_n 3, 1) := by decide +kernel
theorem d_La_law_488 : decode code 488 = .ok (.iconst 1, 1) := by decide +kernel
theorem d_La_law_489 : decode code 489 = .ok (.iadd, 1) := by decide +kernel
theorem d_La_law_490 : decode code 490 = .ok (.iaload, 1) := by decide +kernel
theorem d_La_law_491 : decode code 491 = .ok (.invokevirtual 76, 3) := by decide +kernel
theorem d_La_law_494 : decode code 494 = .ok (.if_icmp .eq 64, 3) := by decide +kernel
theorem d_La_law_497 : decode code 497 = .ok (.iconst 0, 1) := by decide +kernel
theorem d_La_law_498 : decode code 498 = .ok (.ireturn, 1) := by decide +kernel
theorem d_La_law_499 : decode code 499 = .ok (.aload_n 1, 1) := by decide +kernel
theorem d_La_law_500 : decode code 500 = .ok (.aload_n 0, 1) := by decide +kernel
theorem d_La_law_501 : decode code 501 = .ok (.iload_n 3, 1) := by decide +kernel
theorem d_La_law_502 : decode code 502 = .ok (.iconst 1, 1) := by decide +kernel
theorem d_La_law_503 : decode code 503 = .ok (.iadd, 1) := by decide +kernel
theorem d_La_law_504 : decode code 504 = .ok (.iaload, 1) := by decide +kernel
theorem d_La_law_505 : decode code 505 = .ok (.invokevirtual 77, 3) := by decide +kernel
theorem d_La_law_508 : decode code 508 = .ok (.aload_n 2, 1) := by decide +kernel
theorem d_La_law_509 : decode code 509 = .ok (.aload_n 0, 1) := by decide +kernel
theorem d_La_law_510 : decode code 510 = .ok (.iload_n 3, 1) := by decide +kernel
theorem d_La_law_511 : decode code 511 = .ok (.iconst 1, 1) := by decide +kernel
theorem d_La_law_512 : decode code 512 = .ok (.iadd, 1) := by decide +kernel
theorem d_La_law_513 : decode code 513 = .ok (.iaload, 1) := by decide +kernel
theorem d_La_law_514 : decode code 514 = .ok (.invokevirtual 80, 3) := by decide +kernel
theorem d_La_law_517 : decode code 517 = .ok (.if_icmp .eq 41, 3) := by decide +kernel
theorem d_La_law_520 : decode code 520 = .ok (.iconst 0, 1) := by decide +kernel
theorem d_La_law_521 : decode code 521 = .ok (.ireturn, 1) := by decide +kernel
theorem d_La_law_522 : decode code 522 = .ok (.aload_n 1, 1) := by decide +kernel
theorem d_La_law_523 : decode code 523 = .ok (.invokevirtual 81, 3) := by decide +kernel
theorem d_La_law_526 : decode code 526 = .ok (.aload_n 2, 1) := by decide +kernel
theorem d_La_law_527 : decode code 527 = .ok (.invokevirtual 84, 3) := by decide +kernel
theorem d_La_law_530 : decode code 530 = .ok (.if_icmp .eq 28, 3) := by decide +kernel
theorem d_La_law_533 : decode code 533 = .ok (.iconst 0, 1) := by decide +kernel
theorem d_La_law_534 : decode code 534 = .ok (.ireturn, 1) := by decide +kernel
theorem d_La_law_535 : decode code 535 = .ok (.aload_n 1, 1) := by decide +kernel
theorem d_La_law_536 : decode code 536 = .ok (.aload_n 0, 1) := by decide +kernel
theorem d_La_law_537 : decode code 537 = .ok (.iload_n 3, 1) := by decide +kernel
theorem d_La_law_538 : decode code 538 = .ok (.iconst 1, 1) := by decide +kernel
theorem d_La_law_539 : decode code 539 = .ok (.iadd, 1) := by decide +kernel
theorem d_La_law_540 : decode code 540 = .ok (.iaload, 1) := by decide +kernel
theorem d_La_law_541 : decode code 541 = .ok (.invokevirtual 85, 3) := by decide +kernel
theorem d_La_law_544 : decode code 544 = .ok (.aload_n 2, 1) := by decide +kernel
theorem d_La_law_545 : decode code 545 = .ok (.aload_n 0, 1) := by decide +kernel
theorem d_La_law_546 : decode code 546 = .ok (.iload_n 3, 1) := by decide +kernel
theorem d_La_law_547 : decode code 547 = .ok (.iconst 1, 1) := by decide +kernel
theorem d_La_law_548 : decode code 548 = .ok (.iadd, 1) := by decide +kernel
theorem d_La_law_549 : decode code 549 = .ok (.iaload, 1) := by decide +kernel
theorem d_La_law_550 : decode code 550 = .ok (.invokevirtual 88, 3) := by decide +kernel
theorem d_La_law_553 : decode code 553 = .ok (.if_icmp .eq 5, 3) := by decide +kernel
theorem d_La_law_556 : decode code 556 = .ok (.iconst 0, 1) := by decide +kernel
theorem d_La_law_557 : decode code 557 = .ok (.ireturn, 1) := by decide +kernel
theorem d_La_law_558 : decode code 558 = .ok (.iinc 3 3, 3) := by decide +kernel
theorem d_La_law_561 : decode code 561 = .ok (.goto (-543), 3) := by decide +kernel
theorem d_La_law_564 : decode code 564 = .ok (.iconst 1, 1) := by decide +kernel
theorem d_La_law_565 : decode code 565 = .ok (.ireturn, 1) := by decide +kernel
