abbrev b_La_law : ByteArray := code
theorem d_La_law_0 : decode b_La_law 0 = .ok (.new 8, 3) := by decide +kernel
theorem d_La_law_3 : decode b_La_law 3 = .ok (.dup, 1) := by decide +kernel
theorem d_La_law_4 : decode b_La_law 4 = .ok (.invokespecial 50, 3) := by decide +kernel
theorem d_La_law_7 : decode b_La_law 7 = .ok (.astore_n 1, 1) := by decide +kernel
theorem d_La_law_8 : decode b_La_law 8 = .ok (.new 51, 3) := by decide +kernel
theorem d_La_law_11 : decode b_La_law 11 = .ok (.dup, 1) := by decide +kernel
theorem d_La_law_12 : decode b_La_law 12 = .ok (.invokespecial 53, 3) := by decide +kernel
theorem d_La_law_15 : decode b_La_law 15 = .ok (.astore_n 2, 1) := by decide +kernel
theorem d_La_law_16 : decode b_La_law 16 = .ok (.iconst 1, 1) := by decide +kernel
theorem d_La_law_17 : decode b_La_law 17 = .ok (.newarray .long, 2) := by decide +kernel
theorem d_La_law_19 : decode b_La_law 19 = .ok (.astore_n 3, 1) := by decide +kernel
theorem d_La_law_20 : decode b_La_law 20 = .ok (.iconst 0, 1) := by decide +kernel
theorem d_La_law_21 : decode b_La_law 21 = .ok (.istore 4, 2) := by decide +kernel
theorem d_La_law_23 : decode b_La_law 23 = .ok (.iload 4, 2) := by decide +kernel
theorem d_La_law_25 : decode b_La_law 25 = .ok (.aload_n 0, 1) := by decide +kernel
theorem d_La_law_26 : decode b_La_law 26 = .ok (.arraylength, 1) := by decide +kernel
theorem d_La_law_27 : decode b_La_law 27 = .ok (.bipush 6, 2) := by decide +kernel
theorem d_La_law_29 : decode b_La_law 29 = .ok (.isub, 1) := by decide +kernel
theorem d_La_law_30 : decode b_La_law 30 = .ok (.if_icmp .gt 673, 3) := by decide +kernel
theorem d_La_law_33 : decode b_La_law 33 = .ok (.aload_n 0, 1) := by decide +kernel
theorem d_La_law_34 : decode b_La_law 34 = .ok (.iload 4, 2) := by decide +kernel
theorem d_La_law_36 : decode b_La_law 36 = .ok (.iaload, 1) := by decide +kernel
theorem d_La_law_37 : decode b_La_law 37 = .ok (.bipush 15, 2) := by decide +kernel
theorem d_La_law_39 : decode b_La_law 39 = .ok (.iand, 1) := by decide +kernel
theorem d_La_law_40 : decode b_La_law 40 = .ok (.tableswitch 657 0 13 #[72, 156, 192, 240, 253, 301, 314, 370, 438, 494, 550, 574, 587, 643], 72) := by decide +kernel
theorem d_La_law_112 : decode b_La_law 112 = .ok (.aload_n 1, 1) := by decide +kernel
theorem d_La_law_113 : decode b_La_law 113 = .ok (.aload_n 0, 1) := by decide +kernel
theorem d_La_law_114 : decode b_La_law 114 = .ok (.iload 4, 2) := by decide +kernel
theorem d_La_law_116 : decode b_La_law 116 = .ok (.iconst 1, 1) := by decide +kernel
theorem d_La_law_117 : decode b_La_law 117 = .ok (.iadd, 1) := by decide +kernel
theorem d_La_law_118 : decode b_La_law 118 = .ok (.iaload, 1) := by decide +kernel
theorem d_La_law_119 : decode b_La_law 119 = .ok (.aload_n 0, 1) := by decide +kernel
theorem d_La_law_120 : decode b_La_law 120 = .ok (.iload 4, 2) := by decide +kernel
theorem d_La_law_122 : decode b_La_law 122 = .ok (.iconst 2, 1) := by decide +kernel
theorem d_La_law_123 : decode b_La_law 123 = .ok (.iadd, 1) := by decide +kernel
theorem d_La_law_124 : decode b_La_law 124 = .ok (.iaload, 1) := by decide +kernel
theorem d_La_law_125 : decode b_La_law 125 = .ok (.aload_n 0, 1) := by decide +kernel
theorem d_La_law_126 : decode b_La_law 126 = .ok (.iload 4, 2) := by decide +kernel
theorem d_La_law_128 : decode b_La_law 128 = .ok (.iconst 3, 1) := by decide +kernel
theorem d_La_law_129 : decode b_La_law 129 = .ok (.iadd, 1) := by decide +kernel
theorem d_La_law_130 : decode b_La_law 130 = .ok (.iaload, 1) := by decide +kernel
theorem d_La_law_131 : decode b_La_law 131 = .ok (.aload_n 0, 1) := by decide +kernel
theorem d_La_law_132 : decode b_La_law 132 = .ok (.iload 4, 2) := by decide +kernel
theorem d_La_law_134 : decode b_La_law 134 = .ok (.iconst 4, 1) := by decide +kernel
theorem d_La_law_135 : decode b_La_law 135 = .ok (.iadd, 1) := by decide +kernel
theorem d_La_law_136 : decode b_La_law 136 = .ok (.iaload, 1) := by decide +kernel
theorem d_La_law_137 : decode b_La_law 137 = .ok (.aload_n 0, 1) := by decide +kernel
theorem d_La_law_138 : decode b_La_law 138 = .ok (.iload 4, 2) := by decide +kernel
theorem d_La_law_140 : decode b_La_law 140 = .ok (.iconst 5, 1) := by decide +kernel
theorem d_La_law_141 : decode b_La_law 141 = .ok (.iadd, 1) := by decide +kernel
theorem d_La_law_142 : decode b_La_law 142 = .ok (.iaload, 1) := by decide +kernel
theorem d_La_law_143 : decode b_La_law 143 = .ok (.invokestatic 54, 3) := by decide +kernel
theorem d_La_law_146 : decode b_La_law 146 = .ok (.istore 5, 2) := by decide +kernel
theorem d_La_law_148 : decode b_La_law 148 = .ok (.aload_n 2, 1) := by decide +kernel
theorem d_La_law_149 : decode b_La_law 149 = .ok (.aload_n 0, 1) := by decide +kernel
theorem d_La_law_150 : decode b_La_law 150 = .ok (.iload 4, 2) := by decide +kernel
theorem d_La_law_152 : decode b_La_law 152 = .ok (.iconst 1, 1) := by decide +kernel
theorem d_La_law_153 : decode b_La_law 153 = .ok (.iadd, 1) := by decide +kernel
theorem d_La_law_154 : decode b_La_law 154 = .ok (.iaload, 1) := by decide +kernel
theorem d_La_law_155 : decode b_La_law 155 = .ok (.aload_n 0, 1) := by decide +kernel
theorem d_La_law_156 : decode b_La_law 156 = .ok (.iload 4, 2) := by decide +kernel
theorem d_La_law_158 : decode b_La_law 158 = .ok (.iconst 2, 1) := by decide +kernel
theorem d_La_law_159 : decode b_La_law 159 = .ok (.iadd, 1) := by decide +kernel
theorem d_La_law_160 : decode b_La_law 160 = .ok (.iaload, 1) := by decide +kernel
theorem d_La_law_161 : decode b_La_law 161 = .ok (.aload_n 0, 1) := by decide +kernel
theorem d_La_law_162 : decode b_La_law 162 = .ok (.iload 4, 2) := by decide +kernel
theorem d_La_law_164 : decode b_La_law 164 = .ok (.iconst 3, 1) := by decide +kernel
theorem d_La_law_165 : decode b_La_law 165 = .ok (.iadd, 1) := by decide +kernel
theorem d_La_law_166 : decode b_La_law 166 = .ok (.iaload, 1) := by decide +kernel
theorem d_La_law_167 : decode b_La_law 167 = .ok (.aload_n 0, 1) := by decide +kernel
theorem d_La_law_168 : decode b_La_law 168 = .ok (.iload 4, 2) := by decide +kernel
theorem d_La_law_170 : decode b_La_law 170 = .ok (.iconst 4, 1) := by decide +kernel
theorem d_La_law_171 : decode b_La_law 171 = .ok (.iadd, 1) := by decide +kernel
theorem d_La_law_172 : decode b_La_law 172 = .ok (.iaload, 1) := by decide +kernel
theorem d_La_law_173 : decode b_La_law 173 = .ok (.aload_n 0, 1) := by decide +kernel
theorem d_La_law_174 : decode b_La_law 174 = .ok (.iload 4, 2) := by decide +kernel
theorem d_La_law_176 : decode b_La_law 176 = .ok (.iconst 5, 1) := by decide +kernel
theorem d_La_law_177 : decode b_La_law 177 = .ok (.iadd, 1) := by decide +kernel
theorem d_La_law_178 : decode b_La_law 178 = .ok (.iaload, 1) := by decide +kernel
theorem d_La_law_179 : decode b_La_law 179 = .ok (.invokevirtual 59, 3) := by decide +kernel
theorem d_La_law_182 : decode b_La_law 182 = .ok (.aload_n 2, 1) := by decide +kernel
theorem d_La_law_183 : decode b_La_law 183 = .ok (.invokevirtual 60, 3) := by decide +kernel
theorem d_La_law_186 : decode b_La_law 186 = .ok (.iload 5, 2) := by decide +kernel
theorem d_La_law_188 : decode b_La_law 188 = .ok (.if_icmp .eq 5, 3) := by decide +kernel
theorem d_La_law_191 : decode b_La_law 191 = .ok (.iconst 0, 1) := by decide +kernel
theorem d_La_law_192 : decode b_La_law 192 = .ok (.ireturn, 1) := by decide +kernel
theorem d_La_law_193 : decode b_La_law 193 = .ok (.goto 504, 3) := by decide +kernel
theorem d_La_law_196 : decode b_La_law 196 = .ok (.aload_n 1, 1) := by decide +kernel
theorem d_La_law_197 : decode b_La_law 197 = .ok (.aload_n 0, 1) := by decide +kernel
theorem d_La_law_198 : decode b_La_law 198 = .ok (.iload 4, 2) := by decide +kernel
theorem d_La_law_200 : decode b_La_law 200 = .ok (.iconst 1, 1) := by decide +kernel
theorem d_La_law_201 : decode b_La_law 201 = .ok (.iadd, 1) := by decide +kernel
theorem d_La_law_202 : decode b_La_law 202 = .ok (.iaload, 1) := by decide +kernel
theorem d_La_law_203 : decode b_La_law 203 = .ok (.invokestatic 64, 3) := by decide +kernel
theorem d_La_law_206 : decode b_La_law 206 = .ok (.istore 5, 2) := by decide +kernel
theorem d_La_law_208 : decode b_La_law 208 = .ok (.aload_n 2, 1) := by decide +kernel
theorem d_La_law_209 : decode b_La_law 209 = .ok (.aload_n 0, 1) := by decide +kernel
theorem d_La_law_210 : decode b_La_law 210 = .ok (.iload 4, 2) := by decide +kernel
theorem d_La_law_212 : decode b_La_law 212 = .ok (.iconst 1, 1) := by decide +kernel
theorem d_La_law_213 : decode b_La_law 213 = .ok (.iadd, 1) := by decide +kernel
theorem d_La_law_214 : decode b_La_law 214 = .ok (.iaload, 1) := by decide +kernel
theorem d_La_law_215 : decode b_La_law 215 = .ok (.invokevirtual 67, 3) := by decide +kernel
theorem d_La_law_218 : decode b_La_law 218 = .ok (.aload_n 2, 1) := by decide +kernel
theorem d_La_law_219 : decode b_La_law 219 = .ok (.invokevirtual 60, 3) := by decide +kernel
theorem d_La_law_222 : decode b_La_law 222 = .ok (.iload 5, 2) := by decide +kernel
theorem d_La_law_224 : decode b_La_law 224 = .ok (.if_icmp .eq 5, 3) := by decide +kernel
theorem d_La_law_227 : decode b_La_law 227 = .ok (.iconst 0, 1) := by decide +kernel
theorem d_La_law_228 : decode b_La_law 228 = .ok (.ireturn, 1) := by decide +kernel
theorem d_La_law_229 : decode b_La_law 229 = .ok (.goto 468, 3) := by decide +kernel
theorem d_La_law_232 : decode b_La_law 232 = .ok (.aload_n 1, 1) := by decide +kernel
theorem d_La_law_233 : decode b_La_law 233 = .ok (.aload_n 0, 1) := by decide +kernel
theorem d_La_law_234 : decode b_La_law 234 = .ok (.iload 4, 2) := by decide +kernel
theorem d_La_law_236 : decode b_La_law 236 = .ok (.iconst 1, 1) := by decide +kernel
theorem d_La_law_237 : decode b_La_law 237 = .ok (.iadd, 1) := by decide +kernel
theorem d_La_law_238 : decode b_La_law 238 = .ok (.iaload, 1) := by decide +kernel
theorem d_La_law_239 : decode b_La_law 239 = .ok (.aload_n 0, 1) := by decide +kernel
theorem d_La_law_240 : decode b_La_law 240 = .ok (.iload 4, 2) := by decide +kernel
theorem d_La_law_242 : decode b_La_law 242 = .ok (.iconst 2, 1) := by decide +kernel
theorem d_La_law_243 : decode b_La_law 243 = .ok (.iadd, 1) := by decide +kernel
theorem d_La_law_244 : decode b_La_law 244 = .ok (.iaload, 1) := by decide +kernel
theorem d_La_law_245 : decode b_La_law 245 = .ok (.invokestatic 68, 3) := by decide +kernel
theorem d_La_law_248 : decode b_La_law 248 = .ok (.istore 5, 2) := by decide +kernel
theorem d_La_law_250 : decode b_La_law 250 = .ok (.aload_n 2, 1) := by decide +kernel
theorem d_La_law_251 : decode b_La_law 251 = .ok (.aload_n 0, 1) := by decide +kernel
theorem d_La_law_252 : decode b_La_law 252 = .ok (.iload 4, 2) := by decide +kernel
theorem d_La_law_254 : decode b_La_law 254 = .ok (.iconst 1, 1) := by decide +kernel
theorem d_La_law_255 : decode b_La_law 255 = .ok (.iadd, 1) := by decide +kernel
theorem d_La_law_256 : decode b_La_law 256 = .ok (.iaload, 1) := by decide +kernel
theorem d_La_law_257 : decode b_La_law 257 = .ok (.aload_n 0, 1) := by decide +kernel
theorem d_La_law_258 : decode b_La_law 258 = .ok (.iload 4, 2) := by decide +kernel
theorem d_La_law_260 : decode b_La_law 260 = .ok (.iconst 2, 1) := by decide +kernel
theorem d_La_law_261 : decode b_La_law 261 = .ok (.iadd, 1) := by decide +kernel
theorem d_La_law_262 : decode b_La_law 262 = .ok (.iaload, 1) := by decide +kernel
theorem d_La_law_263 : decode b_La_law 263 = .ok (.invokevirtual 71, 3) := by decide +kernel
theorem d_La_law_266 : decode b_La_law 266 = .ok (.aload_n 2, 1) := by decide +kernel
theorem d_La_law_267 : decode b_La_law 267 = .ok (.invokevirtual 60, 3) := by decide +kernel
theorem d_La_law_270 : decode b_La_law 270 = .ok (.iload 5, 2) := by decide +kernel
theorem d_La_law_272 : decode b_La_law 272 = .ok (.if_icmp .eq 5, 3) := by decide +kernel
theorem d_La_law_275 : decode b_La_law 275 = .ok (.iconst 0, 1) := by decide +kernel
theorem d_La_law_276 : decode b_La_law 276 = .ok (.ireturn, 1) := by decide +kernel
theorem d_La_law_277 : decode b_La_law 277 = .ok (.goto 420, 3) := by decide +kernel
theorem d_La_law_280 : decode b_La_law 280 = .ok (.aload_n 1, 1) := by decide +kernel
theorem d_La_law_281 : decode b_La_law 281 = .ok (.invokevirtual 72, 3) := by decide +kernel
theorem d_La_law_284 : decode b_La_law 284 = .ok (.aload_n 2, 1) := by decide +kernel
theorem d_La_law_285 : decode b_La_law 285 = .ok (.invokevirtual 75, 3) := by decide +kernel
theorem d_La_law_288 : decode b_La_law 288 = .ok (.if_icmp .eq 409, 3) := by decide +kernel
theorem d_La_law_291 : decode b_La_law 291 = .ok (.iconst 0, 1) := by decide +kernel
theorem d_La_law_292 : decode b_La_law 292 = .ok (.ireturn, 1) := by decide +kernel
theorem d_La_law_293 : decode b_La_law 293 = .ok (.aload_n 1, 1) := by decide +kernel
theorem d_La_law_294 : decode b_La_law 294 = .ok (.aload_n 0, 1) := by decide +kernel
theorem d_La_law_295 : decode b_La_law 295 = .ok (.iload 4, 2) := by decide +kernel
theorem d_La_law_297 : decode b_La_law 297 = .ok (.iconst 1, 1) := by decide +kernel
theorem d_La_law_298 : decode b_La_law 298 = .ok (.iadd, 1) := by decide +kernel
theorem d_La_law_299 : decode b_La_law 299 = .ok (.iaload, 1) := by decide +kernel
theorem d_La_law_300 : decode b_La_law 300 = .ok (.aload_n 0, 1) := by decide +kernel
theorem d_La_law_301 : decode b_La_law 301 = .ok (.iload 4, 2) := by decide +kernel
theorem d_La_law_303 : decode b_La_law 303 = .ok (.iconst 2, 1) := by decide +kernel
theorem d_La_law_304 : decode b_La_law 304 = .ok (.iadd, 1) := by decide +kernel
theorem d_La_law_305 : decode b_La_law 305 = .ok (.iaload, 1) := by decide +kernel
theorem d_La_law_306 : decode b_La_law 306 = .ok (.invokestatic 76, 3) := by decide +kernel
theorem d_La_law_309 : decode b_La_law 309 = .ok (.istore 5, 2) := by decide +kernel
theorem d_La_law_311 : decode b_La_law 311 = .ok (.aload_n 2, 1) := by decide +kernel
theorem d_La_law_312 : decode b_La_law 312 = .ok (.aload_n 0, 1) := by decide +kernel
theorem d_La_law_313 : decode b_La_law 313 = .ok (.iload 4, 2) := by decide +kernel
theorem d_La_law_315 : decode b_La_law 315 = .ok (.iconst 1, 1) := by decide +kernel
theorem d_La_law_316 : decode b_La_law 316 = .ok (.iadd, 1) := by decide +kernel
theorem d_La_law_317 : decode b_La_law 317 = .ok (.iaload, 1) := by decide +kernel
theorem d_La_law_318 : decode b_La_law 318 = .ok (.aload_n 0, 1) := by decide +kernel
theorem d_La_law_319 : decode b_La_law 319 = .ok (.iload 4, 2) := by decide +kernel
theorem d_La_law_321 : decode b_La_law 321 = .ok (.iconst 2, 1) := by decide +kernel
theorem d_La_law_322 : decode b_La_law 322 = .ok (.iadd, 1) := by decide +kernel
theorem d_La_law_323 : decode b_La_law 323 = .ok (.iaload, 1) := by decide +kernel
theorem d_La_law_324 : decode b_La_law 324 = .ok (.invokevirtual 78, 3) := by decide +kernel
theorem d_La_law_327 : decode b_La_law 327 = .ok (.aload_n 2, 1) := by decide +kernel
theorem d_La_law_328 : decode b_La_law 328 = .ok (.invokevirtual 60, 3) := by decide +kernel
theorem d_La_law_331 : decode b_La_law 331 = .ok (.iload 5, 2) := by decide +kernel
theorem d_La_law_333 : decode b_La_law 333 = .ok (.if_icmp .eq 5, 3) := by decide +kernel
theorem d_La_law_336 : decode b_La_law 336 = .ok (.iconst 0, 1) := by decide +kernel
theorem d_La_law_337 : decode b_La_law 337 = .ok (.ireturn, 1) := by decide +kernel
theorem d_La_law_338 : decode b_La_law 338 = .ok (.goto 359, 3) := by decide +kernel
theorem d_La_law_341 : decode b_La_law 341 = .ok (.aload_n 1, 1) := by decide +kernel
theorem d_La_law_342 : decode b_La_law 342 = .ok (.invokevirtual 79, 3) := by decide +kernel
theorem d_La_law_345 : decode b_La_law 345 = .ok (.aload_n 2, 1) := by decide +kernel
theorem d_La_law_346 : decode b_La_law 346 = .ok (.invokevirtual 82, 3) := by decide +kernel
theorem d_La_law_349 : decode b_La_law 349 = .ok (.if_icmp .eq 348, 3) := by decide +kernel
theorem d_La_law_352 : decode b_La_law 352 = .ok (.iconst 0, 1) := by decide +kernel
theorem d_La_law_353 : decode b_La_law 353 = .ok (.ireturn, 1) := by decide +kernel
theorem d_La_law_354 : decode b_La_law 354 = .ok (.aload_n 1, 1) := by decide +kernel
theorem d_La_law_355 : decode b_La_law 355 = .ok (.aload_n 0, 1) := by decide +kernel
theorem d_La_law_356 : decode b_La_law 356 = .ok (.iload 4, 2) := by decide +kernel
theorem d_La_law_358 : decode b_La_law 358 = .ok (.iconst 1, 1) := by decide +kernel
theorem d_La_law_359 : decode b_La_law 359 = .ok (.iadd, 1) := by decide +kernel
theorem d_La_law_360 : decode b_La_law 360 = .ok (.iaload, 1) := by decide +kernel
theorem d_La_law_361 : decode b_La_law 361 = .ok (.aload_n 3, 1) := by decide +kernel
theorem d_La_law_362 : decode b_La_law 362 = .ok (.invokestatic 83, 3) := by decide +kernel
theorem d_La_law_365 : decode b_La_law 365 = .ok (.istore 5, 2) := by decide +kernel
theorem d_La_law_367 : decode b_La_law 367 = .ok (.aload_n 2, 1) := by decide +kernel
theorem d_La_law_368 : decode b_La_law 368 = .ok (.aload_n 0, 1) := by decide +kernel
theorem d_La_law_369 : decode b_La_law 369 = .ok (.iload 4, 2) := by decide +kernel
theorem d_La_law_371 : decode b_La_law 371 = .ok (.iconst 1, 1) := by decide +kernel
theorem d_La_law_372 : decode b_La_law 372 = .ok (.iadd, 1) := by decide +kernel
theorem d_La_law_373 : decode b_La_law 373 = .ok (.iaload, 1) := by decide +kernel
theorem d_La_law_374 : decode b_La_law 374 = .ok (.invokevirtual 86, 3) := by decide +kernel
theorem d_La_law_377 : decode b_La_law 377 = .ok (.istore 6, 2) := by decide +kernel
theorem d_La_law_379 : decode b_La_law 379 = .ok (.aload_n 2, 1) := by decide +kernel
theorem d_La_law_380 : decode b_La_law 380 = .ok (.invokevirtual 60, 3) := by decide +kernel
theorem d_La_law_383 : decode b_La_law 383 = .ok (.iload 5, 2) := by decide +kernel
theorem d_La_law_385 : decode b_La_law 385 = .ok (.if_icmp .eq 5, 3) := by decide +kernel
theorem d_La_law_388 : decode b_La_law 388 = .ok (.iconst 0, 1) := by decide +kernel
theorem d_La_law_389 : decode b_La_law 389 = .ok (.ireturn, 1) := by decide +kernel
theorem d_La_law_390 : decode b_La_law 390 = .ok (.iload 5, 2) := by decide +kernel
theorem d_La_law_392 : decode b_La_law 392 = .ok (.ifCond .ne 15, 3) := by decide +kernel
theorem d_La_law_395 : decode b_La_law 395 = .ok (.aload_n 3, 1) := by decide +kernel
theorem d_La_law_396 : decode b_La_law 396 = .ok (.iconst 0, 1) := by decide +kernel
theorem d_La_law_397 : decode b_La_law 397 = .ok (.laload, 1) := by decide +kernel
theorem d_La_law_398 : decode b_La_law 398 = .ok (.iload 6, 2) := by decide +kernel
theorem d_La_law_400 : decode b_La_law 400 = .ok (.i2l, 1) := by decide +kernel
theorem d_La_law_401 : decode b_La_law 401 = .ok (.lcmp, 1) := by decide +kernel
theorem d_La_law_402 : decode b_La_law 402 = .ok (.ifCond .eq 5, 3) := by decide +kernel
theorem d_La_law_405 : decode b_La_law 405 = .ok (.iconst 0, 1) := by decide +kernel
theorem d_La_law_406 : decode b_La_law 406 = .ok (.ireturn, 1) := by decide +kernel
theorem d_La_law_407 : decode b_La_law 407 = .ok (.goto 290, 3) := by decide +kernel
theorem d_La_law_410 : decode b_La_law 410 = .ok (.aload_n 1, 1) := by decide +kernel
theorem d_La_law_411 : decode b_La_law 411 = .ok (.aload_n 0, 1) := by decide +kernel
theorem d_La_law_412 : decode b_La_law 412 = .ok (.iload 4, 2) := by decide +kernel
theorem d_La_law_414 : decode b_La_law 414 = .ok (.iconst 1, 1) := by decide +kernel
theorem d_La_law_415 : decode b_La_law 415 = .ok (.iadd, 1) := by decide +kernel
theorem d_La_law_416 : decode b_La_law 416 = .ok (.iaload, 1) := by decide +kernel
theorem d_La_law_417 : decode b_La_law 417 = .ok (.aload_n 0, 1) := by decide +kernel
theorem d_La_law_418 : decode b_La_law 418 = .ok (.iload 4, 2) := by decide +kernel
theorem d_La_law_420 : decode b_La_law 420 = .ok (.iconst 2, 1) := by decide +kernel
theorem d_La_law_421 : decode b_La_law 421 = .ok (.iadd, 1) := by decide +kernel
theorem d_La_law_422 : decode b_La_law 422 = .ok (.iaload, 1) := by decide +kernel
theorem d_La_law_423 : decode b_La_law 423 = .ok (.aload_n 3, 1) := by decide +kernel
theorem d_La_law_424 : decode b_La_law 424 = .ok (.invokestatic 87, 3) := by decide +kernel
theorem d_La_law_427 : decode b_La_law 427 = .ok (.istore 5, 2) := by decide +kernel
theorem d_La_law_429 : decode b_La_law 429 = .ok (.aload_n 2, 1) := by decide +kernel
theorem d_La_law_430 : decode b_La_law 430 = .ok (.aload_n 0, 1) := by decide +kernel
theorem d_La_law_431 : decode b_La_law 431 = .ok (.iload 4, 2) := by decide +kernel
theorem d_La_law_433 : decode b_La_law 433 = .ok (.iconst 1, 1) := by decide +kernel
theorem d_La_law_434 : decode b_La_law 434 = .ok (.iadd, 1) := by decide +kernel
theorem d_La_law_435 : decode b_La_law 435 = .ok (.iaload, 1) := by decide +kernel
theorem d_La_law_436 : decode b_La_law 436 = .ok (.aload_n 0, 1) := by decide +kernel
theorem d_La_law_437 : decode b_La_law 437 = .ok (.iload 4, 2) := by decide +kernel
theorem d_La_law_439 : decode b_La_law 439 = .ok (.iconst 2, 1) := by decide +kernel
theorem d_La_law_440 : decode b_La_law 440 = .ok (.iadd, 1) := by decide +kernel
theorem d_La_law_441 : decode b_La_law 441 = .ok (.iaload, 1) := by decide +kernel
theorem d_La_law_442 : decode b_La_law 442 = .ok (.invokevirtual 90, 3) := by decide +kernel
theorem d_La_law_445 : decode b_La_law 445 = .ok (.istore 6, 2) := by decide +kernel
theorem d_La_law_447 : decode b_La_law 447 = .ok (.aload_n 2, 1) := by decide +kernel
theorem d_La_law_448 : decode b_La_law 448 = .ok (.invokevirtual 60, 3) := by decide +kernel
theorem d_La_law_451 : decode b_La_law 451 = .ok (.iload 5, 2) := by decide +kernel
theorem d_La_law_453 : decode b_La_law 453 = .ok (.if_icmp .eq 5, 3) := by decide +kernel
theorem d_La_law_456 : decode b_La_law 456 = .ok (.iconst 0, 1) := by decide +kernel
theorem d_La_law_457 : decode b_La_law 457 = .ok (.ireturn, 1) := by decide +kernel
theorem d_La_law_458 : decode b_La_law 458 = .ok (.iload 5, 2) := by decide +kernel
theorem d_La_law_460 : decode b_La_law 460 = .ok (.ifCond .ne 15, 3) := by decide +kernel
theorem d_La_law_463 : decode b_La_law 463 = .ok (.aload_n 3, 1) := by decide +kernel
theorem d_La_law_464 : decode b_La_law 464 = .ok (.iconst 0, 1) := by decide +kernel
theorem d_La_law_465 : decode b_La_law 465 = .ok (.laload, 1) := by decide +kernel
theorem d_La_law_466 : decode b_La_law 466 = .ok (.iload 6, 2) := by decide +kernel
theorem d_La_law_468 : decode b_La_law 468 = .ok (.i2l, 1) := by decide +kernel
theorem d_La_law_469 : decode b_La_law 469 = .ok (.lcmp, 1) := by decide +kernel
theorem d_La_law_470 : decode b_La_law 470 = .ok (.ifCond .eq 5, 3) := by decide +kernel
theorem d_La_law_473 : decode b_La_law 473 = .ok (.iconst 0, 1) := by decide +kernel
theorem d_La_law_474 : decode b_La_law 474 = .ok (.ireturn, 1) := by decide +kernel
theorem d_La_law_475 : decode b_La_law 475 = .ok (.goto 222, 3) := by decide +kernel
theorem d_La_law_478 : decode b_La_law 478 = .ok (.aload_n 1, 1) := by decide +kernel
theorem d_La_law_479 : decode b_La_law 479 = .ok (.aload_n 0, 1) := by decide +kernel
theorem d_La_law_480 : decode b_La_law 480 = .ok (.iload 4, 2) := by decide +kernel
theorem d_La_law_482 : decode b_La_law 482 = .ok (.iconst 1, 1) := by decide +kernel
theorem d_La_law_483 : decode b_La_law 483 = .ok (.iadd, 1) := by decide +kernel
theorem d_La_law_484 : decode b_La_law 484 = .ok (.iaload, 1) := by decide +kernel
theorem d_La_law_485 : decode b_La_law 485 = .ok (.aload_n 3, 1) := by decide +kernel
theorem d_La_law_486 : decode b_La_law 486 = .ok (.invokestatic 91, 3) := by decide +kernel
theorem d_La_law_489 : decode b_La_law 489 = .ok (.istore 5, 2) := by decide +kernel
theorem d_La_law_491 : decode b_La_law 491 = .ok (.aload_n 2, 1) := by decide +kernel
theorem d_La_law_492 : decode b_La_law 492 = .ok (.aload_n 0, 1) := by decide +kernel
theorem d_La_law_493 : decode b_La_law 493 = .ok (.iload 4, 2) := by decide +kernel
theorem d_La_law_495 : decode b_La_law 495 = .ok (.iconst 1, 1) := by decide +kernel
theorem d_La_law_496 : decode b_La_law 496 = .ok (.iadd, 1) := by decide +kernel
theorem d_La_law_497 : decode b_La_law 497 = .ok (.iaload, 1) := by decide +kernel
theorem d_La_law_498 : decode b_La_law 498 = .ok (.invokevirtual 93, 3) := by decide +kernel
theorem d_La_law_501 : decode b_La_law 501 = .ok (.istore 6, 2) := by decide +kernel
theorem d_La_law_503 : decode b_La_law 503 = .ok (.aload_n 2, 1) := by decide +kernel
theorem d_La_law_504 : decode b_La_law 504 = .ok (.invokevirtual 60, 3) := by decide +kernel
theorem d_La_law_507 : decode b_La_law 507 = .ok (.iload 5, 2) := by decide +kernel
theorem d_La_law_509 : decode b_La_law 509 = .ok (.if_icmp .eq 5, 3) := by decide +kernel
theorem d_La_law_512 : decode b_La_law 512 = .ok (.iconst 0, 1) := by decide +kernel
theorem d_La_law_513 : decode b_La_law 513 = .ok (.ireturn, 1) := by decide +kernel
theorem d_La_law_514 : decode b_La_law 514 = .ok (.iload 5, 2) := by decide +kernel
theorem d_La_law_516 : decode b_La_law 516 = .ok (.ifCond .ne 15, 3) := by decide +kernel
theorem d_La_law_519 : decode b_La_law 519 = .ok (.aload_n 3, 1) := by decide +kernel
theorem d_La_law_520 : decode b_La_law 520 = .ok (.iconst 0, 1) := by decide +kernel
theorem d_La_law_521 : decode b_La_law 521 = .ok (.laload, 1) := by decide +kernel
theorem d_La_law_522 : decode b_La_law 522 = .ok (.iload 6, 2) := by decide +kernel
theorem d_La_law_524 : decode b_La_law 524 = .ok (.i2l, 1) := by decide +kernel
theorem d_La_law_525 : decode b_La_law 525 = .ok (.lcmp, 1) := by decide +kernel
theorem d_La_law_526 : decode b_La_law 526 = .ok (.ifCond .eq 5, 3) := by decide +kernel
theorem d_La_law_529 : decode b_La_law 529 = .ok (.iconst 0, 1) := by decide +kernel
theorem d_La_law_530 : decode b_La_law 530 = .ok (.ireturn, 1) := by decide +kernel
theorem d_La_law_531 : decode b_La_law 531 = .ok (.goto 166, 3) := by decide +kernel
theorem d_La_law_534 : decode b_La_law 534 = .ok (.aload_n 1, 1) := by decide +kernel
theorem d_La_law_535 : decode b_La_law 535 = .ok (.aload_n 0, 1) := by decide +kernel
theorem d_La_law_536 : decode b_La_law 536 = .ok (.iload 4, 2) := by decide +kernel
theorem d_La_law_538 : decode b_La_law 538 = .ok (.iconst 1, 1) := by decide +kernel
theorem d_La_law_539 : decode b_La_law 539 = .ok (.iadd, 1) := by decide +kernel
theorem d_La_law_540 : decode b_La_law 540 = .ok (.iaload, 1) := by decide +kernel
theorem d_La_law_541 : decode b_La_law 541 = .ok (.aload_n 3, 1) := by decide +kernel
theorem d_La_law_542 : decode b_La_law 542 = .ok (.invokestatic 94, 3) := by decide +kernel
theorem d_La_law_545 : decode b_La_law 545 = .ok (.istore 5, 2) := by decide +kernel
theorem d_La_law_547 : decode b_La_law 547 = .ok (.aload_n 2, 1) := by decide +kernel
theorem d_La_law_548 : decode b_La_law 548 = .ok (.aload_n 0, 1) := by decide +kernel
theorem d_La_law_549 : decode b_La_law 549 = .ok (.iload 4, 2) := by decide +kernel
theorem d_La_law_551 : decode b_La_law 551 = .ok (.iconst 1, 1) := by decide +kernel
theorem d_La_law_552 : decode b_La_law 552 = .ok (.iadd, 1) := by decide +kernel
theorem d_La_law_553 : decode b_La_law 553 = .ok (.iaload, 1) := by decide +kernel
theorem d_La_law_554 : decode b_La_law 554 = .ok (.invokevirtual 96, 3) := by decide +kernel
theorem d_La_law_557 : decode b_La_law 557 = .ok (.istore 6, 2) := by decide +kernel
theorem d_La_law_559 : decode b_La_law 559 = .ok (.aload_n 2, 1) := by decide +kernel
theorem d_La_law_560 : decode b_La_law 560 = .ok (.invokevirtual 60, 3) := by decide +kernel
theorem d_La_law_563 : decode b_La_law 563 = .ok (.iload 5, 2) := by decide +kernel
theorem d_La_law_565 : decode b_La_law 565 = .ok (.if_icmp .eq 5, 3) := by decide +kernel
theorem d_La_law_568 : decode b_La_law 568 = .ok (.iconst 0, 1) := by decide +kernel
theorem d_La_law_569 : decode b_La_law 569 = .ok (.ireturn, 1) := by decide +kernel
theorem d_La_law_570 : decode b_La_law 570 = .ok (.iload 5, 2) := by decide +kernel
theorem d_La_law_572 : decode b_La_law 572 = .ok (.ifCond .ne 15, 3) := by decide +kernel
theorem d_La_law_575 : decode b_La_law 575 = .ok (.aload_n 3, 1) := by decide +kernel
theorem d_La_law_576 : decode b_La_law 576 = .ok (.iconst 0, 1) := by decide +kernel
theorem d_La_law_577 : decode b_La_law 577 = .ok (.laload, 1) := by decide +kernel
theorem d_La_law_578 : decode b_La_law 578 = .ok (.iload 6, 2) := by decide +kernel
theorem d_La_law_580 : decode b_La_law 580 = .ok (.i2l, 1) := by decide +kernel
theorem d_La_law_581 : decode b_La_law 581 = .ok (.lcmp, 1) := by decide +kernel
theorem d_La_law_582 : decode b_La_law 582 = .ok (.ifCond .eq 5, 3) := by decide +kernel
theorem d_La_law_585 : decode b_La_law 585 = .ok (.iconst 0, 1) := by decide +kernel
theorem d_La_law_586 : decode b_La_law 586 = .ok (.ireturn, 1) := by decide +kernel
theorem d_La_law_587 : decode b_La_law 587 = .ok (.goto 110, 3) := by decide +kernel
theorem d_La_law_590 : decode b_La_law 590 = .ok (.aload_n 1, 1) := by decide +kernel
theorem d_La_law_591 : decode b_La_law 591 = .ok (.invokestatic 97, 3) := by decide +kernel
theorem d_La_law_594 : decode b_La_law 594 = .ok (.istore 5, 2) := by decide +kernel
theorem d_La_law_596 : decode b_La_law 596 = .ok (.aload_n 2, 1) := by decide +kernel
theorem d_La_law_597 : decode b_La_law 597 = .ok (.invokevirtual 100, 3) := by decide +kernel
theorem d_La_law_600 : decode b_La_law 600 = .ok (.aload_n 2, 1) := by decide +kernel
theorem d_La_law_601 : decode b_La_law 601 = .ok (.invokevirtual 60, 3) := by decide +kernel
theorem d_La_law_604 : decode b_La_law 604 = .ok (.iload 5, 2) := by decide +kernel
theorem d_La_law_606 : decode b_La_law 606 = .ok (.if_icmp .eq 5, 3) := by decide +kernel
theorem d_La_law_609 : decode b_La_law 609 = .ok (.iconst 0, 1) := by decide +kernel
theorem d_La_law_610 : decode b_La_law 610 = .ok (.ireturn, 1) := by decide +kernel
theorem d_La_law_611 : decode b_La_law 611 = .ok (.goto 86, 3) := by decide +kernel
theorem d_La_law_614 : decode b_La_law 614 = .ok (.aload_n 1, 1) := by decide +kernel
theorem d_La_law_615 : decode b_La_law 615 = .ok (.invokevirtual 101, 3) := by decide +kernel
theorem d_La_law_618 : decode b_La_law 618 = .ok (.aload_n 2, 1) := by decide +kernel
theorem d_La_law_619 : decode b_La_law 619 = .ok (.invokevirtual 104, 3) := by decide +kernel
theorem d_La_law_622 : decode b_La_law 622 = .ok (.if_icmp .eq 75, 3) := by decide +kernel
theorem d_La_law_625 : decode b_La_law 625 = .ok (.iconst 0, 1) := by decide +kernel
theorem d_La_law_626 : decode b_La_law 626 = .ok (.ireturn, 1) := by decide +kernel
theorem d_La_law_627 : decode b_La_law 627 = .ok (.aload_n 1, 1) := by decide +kernel
theorem d_La_law_628 : decode b_La_law 628 = .ok (.aload_n 0, 1) := by decide +kernel
theorem d_La_law_629 : decode b_La_law 629 = .ok (.iload 4, 2) := by decide +kernel
theorem d_La_law_631 : decode b_La_law 631 = .ok (.iconst 1, 1) := by decide +kernel
theorem d_La_law_632 : decode b_La_law 632 = .ok (.iadd, 1) := by decide +kernel
theorem d_La_law_633 : decode b_La_law 633 = .ok (.iaload, 1) := by decide +kernel
theorem d_La_law_634 : decode b_La_law 634 = .ok (.aload_n 3, 1) := by decide +kernel
theorem d_La_law_635 : decode b_La_law 635 = .ok (.invokestatic 105, 3) := by decide +kernel
theorem d_La_law_638 : decode b_La_law 638 = .ok (.istore 5, 2) := by decide +kernel
theorem d_La_law_640 : decode b_La_law 640 = .ok (.aload_n 2, 1) := by decide +kernel
theorem d_La_law_641 : decode b_La_law 641 = .ok (.aload_n 0, 1) := by decide +kernel
theorem d_La_law_642 : decode b_La_law 642 = .ok (.iload 4, 2) := by decide +kernel
theorem d_La_law_644 : decode b_La_law 644 = .ok (.iconst 1, 1) := by decide +kernel
theorem d_La_law_645 : decode b_La_law 645 = .ok (.iadd, 1) := by decide +kernel
theorem d_La_law_646 : decode b_La_law 646 = .ok (.iaload, 1) := by decide +kernel
theorem d_La_law_647 : decode b_La_law 647 = .ok (.invokevirtual 107, 3) := by decide +kernel
theorem d_La_law_650 : decode b_La_law 650 = .ok (.istore 6, 2) := by decide +kernel
theorem d_La_law_652 : decode b_La_law 652 = .ok (.aload_n 2, 1) := by decide +kernel
theorem d_La_law_653 : decode b_La_law 653 = .ok (.invokevirtual 60, 3) := by decide +kernel
theorem d_La_law_656 : decode b_La_law 656 = .ok (.iload 5, 2) := by decide +kernel
theorem d_La_law_658 : decode b_La_law 658 = .ok (.if_icmp .eq 5, 3) := by decide +kernel
theorem d_La_law_661 : decode b_La_law 661 = .ok (.iconst 0, 1) := by decide +kernel
theorem d_La_law_662 : decode b_La_law 662 = .ok (.ireturn, 1) := by decide +kernel
theorem d_La_law_663 : decode b_La_law 663 = .ok (.iload 5, 2) := by decide +kernel
theorem d_La_law_665 : decode b_La_law 665 = .ok (.ifCond .ne 15, 3) := by decide +kernel
theorem d_La_law_668 : decode b_La_law 668 = .ok (.aload_n 3, 1) := by decide +kernel
theorem d_La_law_669 : decode b_La_law 669 = .ok (.iconst 0, 1) := by decide +kernel
theorem d_La_law_670 : decode b_La_law 670 = .ok (.laload, 1) := by decide +kernel
theorem d_La_law_671 : decode b_La_law 671 = .ok (.iload 6, 2) := by decide +kernel
theorem d_La_law_673 : decode b_La_law 673 = .ok (.i2l, 1) := by decide +kernel
theorem d_La_law_674 : decode b_La_law 674 = .ok (.lcmp, 1) := by decide +kernel
theorem d_La_law_675 : decode b_La_law 675 = .ok (.ifCond .eq 5, 3) := by decide +kernel
theorem d_La_law_678 : decode b_La_law 678 = .ok (.iconst 0, 1) := by decide +kernel
theorem d_La_law_679 : decode b_La_law 679 = .ok (.ireturn, 1) := by decide +kernel
theorem d_La_law_680 : decode b_La_law 680 = .ok (.goto 17, 3) := by decide +kernel
theorem d_La_law_683 : decode b_La_law 683 = .ok (.aload_n 1, 1) := by decide +kernel
theorem d_La_law_684 : decode b_La_law 684 = .ok (.invokevirtual 108, 3) := by decide +kernel
theorem d_La_law_687 : decode b_La_law 687 = .ok (.aload_n 2, 1) := by decide +kernel
theorem d_La_law_688 : decode b_La_law 688 = .ok (.invokevirtual 112, 3) := by decide +kernel
theorem d_La_law_691 : decode b_La_law 691 = .ok (.lcmp, 1) := by decide +kernel
theorem d_La_law_692 : decode b_La_law 692 = .ok (.ifCond .eq 5, 3) := by decide +kernel
theorem d_La_law_695 : decode b_La_law 695 = .ok (.iconst 0, 1) := by decide +kernel
theorem d_La_law_696 : decode b_La_law 696 = .ok (.ireturn, 1) := by decide +kernel
theorem d_La_law_697 : decode b_La_law 697 = .ok (.iinc 4 6, 3) := by decide +kernel
theorem d_La_law_700 : decode b_La_law 700 = .ok (.goto (-677), 3) := by decide +kernel
theorem d_La_law_703 : decode b_La_law 703 = .ok (.iconst 1, 1) := by decide +kernel
theorem d_La_law_704 : decode b_La_law 704 = .ok (.ireturn, 1) := by decide +kernel
