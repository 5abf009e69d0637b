theorem d_L_law_0 : decode b_L_law 0 = .ok (.new 8, 3) := by decide +kernel
theorem d_L_law_3 : decode b_L_law 3 = .ok (.dup, 1) := by decide +kernel
theorem d_L_law_4 : decode b_L_law 4 = .ok (.invokespecial 54, 3) := by decide +kernel
theorem d_L_law_7 : decode b_L_law 7 = .ok (.astore_n 1, 1) := by decide +kernel
theorem d_L_law_8 : decode b_L_law 8 = .ok (.new 55, 3) := by decide +kernel
theorem d_L_law_11 : decode b_L_law 11 = .ok (.dup, 1) := by decide +kernel
theorem d_L_law_12 : decode b_L_law 12 = .ok (.invokespecial 57, 3) := by decide +kernel
theorem d_L_law_15 : decode b_L_law 15 = .ok (.astore_n 2, 1) := by decide +kernel
theorem d_L_law_16 : decode b_L_law 16 = .ok (.iconst 1, 1) := by decide +kernel
theorem d_L_law_17 : decode b_L_law 17 = .ok (.newarray .long, 2) := by decide +kernel
theorem d_L_law_19 : decode b_L_law 19 = .ok (.astore_n 3, 1) := by decide +kernel
theorem d_L_law_20 : decode b_L_law 20 = .ok (.iconst 0, 1) := by decide +kernel
theorem d_L_law_21 : decode b_L_law 21 = .ok (.istore 4, 2) := by decide +kernel
theorem d_L_law_23 : decode b_L_law 23 = .ok (.iload 4, 2) := by decide +kernel
theorem d_L_law_25 : decode b_L_law 25 = .ok (.aload_n 0, 1) := by decide +kernel
theorem d_L_law_26 : decode b_L_law 26 = .ok (.arraylength, 1) := by decide +kernel
theorem d_L_law_27 : decode b_L_law 27 = .ok (.iconst 3, 1) := by decide +kernel
theorem d_L_law_28 : decode b_L_law 28 = .ok (.isub, 1) := by decide +kernel
theorem d_L_law_29 : decode b_L_law 29 = .ok (.if_icmp .gt 911, 3) := by decide +kernel
theorem d_L_law_32 : decode b_L_law 32 = .ok (.aload_n 0, 1) := by decide +kernel
theorem d_L_law_33 : decode b_L_law 33 = .ok (.iload 4, 2) := by decide +kernel
theorem d_L_law_35 : decode b_L_law 35 = .ok (.iaload, 1) := by decide +kernel
theorem d_L_law_36 : decode b_L_law 36 = .ok (.bipush 15, 2) := by decide +kernel
theorem d_L_law_38 : decode b_L_law 38 = .ok (.iand, 1) := by decide +kernel
theorem d_L_law_39 : decode b_L_law 39 = .ok (.tableswitch 895 0 13 #[69, 113, 181, 249, 324, 399, 474, 549, 605, 689, 745, 801, 857, 870], 69) := by decide +kernel
theorem d_L_law_108 : decode b_L_law 108 = .ok (.aload_n 1, 1) := by decide +kernel
theorem d_L_law_109 : decode b_L_law 109 = .ok (.aload_n 3, 1) := by decide +kernel
theorem d_L_law_110 : decode b_L_law 110 = .ok (.invokestatic 58, 3) := by decide +kernel
theorem d_L_law_113 : decode b_L_law 113 = .ok (.istore 5, 2) := by decide +kernel
theorem d_L_law_115 : decode b_L_law 115 = .ok (.aload_n 2, 1) := by decide +kernel
theorem d_L_law_116 : decode b_L_law 116 = .ok (.invokevirtual 63, 3) := by decide +kernel
theorem d_L_law_119 : decode b_L_law 119 = .ok (.istore 6, 2) := by decide +kernel
theorem d_L_law_121 : decode b_L_law 121 = .ok (.aload_n 2, 1) := by decide +kernel
theorem d_L_law_122 : decode b_L_law 122 = .ok (.invokevirtual 64, 3) := by decide +kernel
theorem d_L_law_125 : decode b_L_law 125 = .ok (.iload 5, 2) := by decide +kernel
theorem d_L_law_127 : decode b_L_law 127 = .ok (.if_icmp .eq 5, 3) := by decide +kernel
theorem d_L_law_130 : decode b_L_law 130 = .ok (.iconst 0, 1) := by decide +kernel
theorem d_L_law_131 : decode b_L_law 131 = .ok (.ireturn, 1) := by decide +kernel
theorem d_L_law_132 : decode b_L_law 132 = .ok (.iload 5, 2) := by decide +kernel
theorem d_L_law_134 : decode b_L_law 134 = .ok (.ifCond .ne 15, 3) := by decide +kernel
theorem d_L_law_137 : decode b_L_law 137 = .ok (.aload_n 3, 1) := by decide +kernel
theorem d_L_law_138 : decode b_L_law 138 = .ok (.iconst 0, 1) := by decide +kernel
theorem d_L_law_139 : decode b_L_law 139 = .ok (.laload, 1) := by decide +kernel
theorem d_L_law_140 : decode b_L_law 140 = .ok (.iload 6, 2) := by decide +kernel
theorem d_L_law_142 : decode b_L_law 142 = .ok (.i2l, 1) := by decide +kernel
theorem d_L_law_143 : decode b_L_law 143 = .ok (.lcmp, 1) := by decide +kernel
theorem d_L_law_144 : decode b_L_law 144 = .ok (.ifCond .eq 5, 3) := by decide +kernel
theorem d_L_law_147 : decode b_L_law 147 = .ok (.iconst 0, 1) := by decide +kernel
theorem d_L_law_148 : decode b_L_law 148 = .ok (.ireturn, 1) := by decide +kernel
theorem d_L_law_149 : decode b_L_law 149 = .ok (.goto 785, 3) := by decide +kernel
theorem d_L_law_152 : decode b_L_law 152 = .ok (.aload_n 1, 1) := by decide +kernel
theorem d_L_law_153 : decode b_L_law 153 = .ok (.aload_n 0, 1) := by decide +kernel
theorem d_L_law_154 : decode b_L_law 154 = .ok (.iload 4, 2) := by decide +kernel
theorem d_L_law_156 : decode b_L_law 156 = .ok (.iconst 1, 1) := by decide +kernel
theorem d_L_law_157 : decode b_L_law 157 = .ok (.iadd, 1) := by decide +kernel
theorem d_L_law_158 : decode b_L_law 158 = .ok (.iaload, 1) := by decide +kernel
theorem d_L_law_159 : decode b_L_law 159 = .ok (.aload_n 0, 1) := by decide +kernel
theorem d_L_law_160 : decode b_L_law 160 = .ok (.iload 4, 2) := by decide +kernel
theorem d_L_law_162 : decode b_L_law 162 = .ok (.iconst 2, 1) := by decide +kernel
theorem d_L_law_163 : decode b_L_law 163 = .ok (.iadd, 1) := by decide +kernel
theorem d_L_law_164 : decode b_L_law 164 = .ok (.iaload, 1) := by decide +kernel
theorem d_L_law_165 : decode b_L_law 165 = .ok (.aload_n 3, 1) := by decide +kernel
theorem d_L_law_166 : decode b_L_law 166 = .ok (.invokestatic 67, 3) := by decide +kernel
theorem d_L_law_169 : decode b_L_law 169 = .ok (.istore 5, 2) := by decide +kernel
theorem d_L_law_171 : decode b_L_law 171 = .ok (.aload_n 2, 1) := by decide +kernel
theorem d_L_law_172 : decode b_L_law 172 = .ok (.aload_n 0, 1) := by decide +kernel
theorem d_L_law_173 : decode b_L_law 173 = .ok (.iload 4, 2) := by decide +kernel
theorem d_L_law_175 : decode b_L_law 175 = .ok (.iconst 1, 1) := by decide +kernel
theorem d_L_law_176 : decode b_L_law 176 = .ok (.iadd, 1) := by decide +kernel
theorem d_L_law_177 : decode b_L_law 177 = .ok (.iaload, 1) := by decide +kernel
theorem d_L_law_178 : decode b_L_law 178 = .ok (.aload_n 0, 1) := by decide +kernel
theorem d_L_law_179 : decode b_L_law 179 = .ok (.iload 4, 2) := by decide +kernel
theorem d_L_law_181 : decode b_L_law 181 = .ok (.iconst 2, 1) := by decide +kernel
theorem d_L_law_182 : decode b_L_law 182 = .ok (.iadd, 1) := by decide +kernel
theorem d_L_law_183 : decode b_L_law 183 = .ok (.iaload, 1) := by decide +kernel
theorem d_L_law_184 : decode b_L_law 184 = .ok (.invokevirtual 70, 3) := by decide +kernel
theorem d_L_law_187 : decode b_L_law 187 = .ok (.istore 6, 2) := by decide +kernel
theorem d_L_law_189 : decode b_L_law 189 = .ok (.aload_n 2, 1) := by decide +kernel
theorem d_L_law_190 : decode b_L_law 190 = .ok (.invokevirtual 64, 3) := by decide +kernel
theorem d_L_law_193 : decode b_L_law 193 = .ok (.iload 5, 2) := by decide +kernel
theorem d_L_law_195 : decode b_L_law 195 = .ok (.if_icmp .eq 5, 3) := by decide +kernel
theorem d_L_law_198 : decode b_L_law 198 = .ok (.iconst 0, 1) := by decide +kernel
theorem d_L_law_199 : decode b_L_law 199 = .ok (.ireturn, 1) := by decide +kernel
theorem d_L_law_200 : decode b_L_law 200 = .ok (.iload 5, 2) := by decide +kernel
theorem d_L_law_202 : decode b_L_law 202 = .ok (.ifCond .ne 15, 3) := by decide +kernel
theorem d_L_law_205 : decode b_L_law 205 = .ok (.aload_n 3, 1) := by decide +kernel
theorem d_L_law_206 : decode b_L_law 206 = .ok (.iconst 0, 1) := by decide +kernel
theorem d_L_law_207 : decode b_L_law 207 = .ok (.laload, 1) := by decide +kernel
theorem d_L_law_208 : decode b_L_law 208 = .ok (.iload 6, 2) := by decide +kernel
theorem d_L_law_210 : decode b_L_law 210 = .ok (.i2l, 1) := by decide +kernel
theorem d_L_law_211 : decode b_L_law 211 = .ok (.lcmp, 1) := by decide +kernel
theorem d_L_law_212 : decode b_L_law 212 = .ok (.ifCond .eq 5, 3) := by decide +kernel
theorem d_L_law_215 : decode b_L_law 215 = .ok (.iconst 0, 1) := by decide +kernel
theorem d_L_law_216 : decode b_L_law 216 = .ok (.ireturn, 1) := by decide +kernel
theorem d_L_law_217 : decode b_L_law 217 = .ok (.goto 717, 3) := by decide +kernel
theorem d_L_law_220 : decode b_L_law 220 = .ok (.aload_n 1, 1) := by decide +kernel
theorem d_L_law_221 : decode b_L_law 221 = .ok (.aload_n 0, 1) := by decide +kernel
theorem d_L_law_222 : decode b_L_law 222 = .ok (.iload 4, 2) := by decide +kernel
theorem d_L_law_224 : decode b_L_law 224 = .ok (.iconst 1, 1) := by decide +kernel
theorem d_L_law_225 : decode b_L_law 225 = .ok (.iadd, 1) := by decide +kernel
theorem d_L_law_226 : decode b_L_law 226 = .ok (.iaload, 1) := by decide +kernel
theorem d_L_law_227 : decode b_L_law 227 = .ok (.aload_n 0, 1) := by decide +kernel
theorem d_L_law_228 : decode b_L_law 228 = .ok (.iload 4, 2) := by decide +kernel
theorem d_L_law_230 : decode b_L_law 230 = .ok (.iconst 2, 1) := by decide +kernel
theorem d_L_law_231 : decode b_L_law 231 = .ok (.iadd, 1) := by decide +kernel
theorem d_L_law_232 : decode b_L_law 232 = .ok (.iaload, 1) := by decide +kernel
theorem d_L_law_233 : decode b_L_law 233 = .ok (.aload_n 3, 1) := by decide +kernel
theorem d_L_law_234 : decode b_L_law 234 = .ok (.invokestatic 71, 3) := by decide +kernel
theorem d_L_law_237 : decode b_L_law 237 = .ok (.istore 5, 2) := by decide +kernel
theorem d_L_law_239 : decode b_L_law 239 = .ok (.aload_n 2, 1) := by decide +kernel
theorem d_L_law_240 : decode b_L_law 240 = .ok (.aload_n 0, 1) := by decide +kernel
theorem d_L_law_241 : decode b_L_law 241 = .ok (.iload 4, 2) := by decide +kernel
theorem d_L_law_243 : decode b_L_law 243 = .ok (.iconst 1, 1) := by decide +kernel
theorem d_L_law_244 : decode b_L_law 244 = .ok (.iadd, 1) := by decide +kernel
theorem d_L_law_245 : decode b_L_law 245 = .ok (.iaload, 1) := by decide +kernel
theorem d_L_law_246 : decode b_L_law 246 = .ok (.aload_n 0, 1) := by decide +kernel
theorem d_L_law_247 : decode b_L_law 247 = .ok (.iload 4, 2) := by decide +kernel
theorem d_L_law_249 : decode b_L_law 249 = .ok (.iconst 2, 1) := by decide +kernel
theorem d_L_law_250 : decode b_L_law 250 = .ok (.iadd, 1) := by decide +kernel
theorem d_L_law_251 : decode b_L_law 251 = .ok (.iaload, 1) := by decide +kernel
theorem d_L_law_252 : decode b_L_law 252 = .ok (.invokevirtual 73, 3) := by decide +kernel
theorem d_L_law_255 : decode b_L_law 255 = .ok (.istore 6, 2) := by decide +kernel
theorem d_L_law_257 : decode b_L_law 257 = .ok (.aload_n 2, 1) := by decide +kernel
theorem d_L_law_258 : decode b_L_law 258 = .ok (.invokevirtual 64, 3) := by decide +kernel
theorem d_L_law_261 : decode b_L_law 261 = .ok (.iload 5, 2) := by decide +kernel
theorem d_L_law_263 : decode b_L_law 263 = .ok (.if_icmp .eq 5, 3) := by decide +kernel
theorem d_L_law_266 : decode b_L_law 266 = .ok (.iconst 0, 1) := by decide +kernel
theorem d_L_law_267 : decode b_L_law 267 = .ok (.ireturn, 1) := by decide +kernel
theorem d_L_law_268 : decode b_L_law 268 = .ok (.iload 5, 2) := by decide +kernel
theorem d_L_law_270 : decode b_L_law 270 = .ok (.ifCond .ne 15, 3) := by decide +kernel
theorem d_L_law_273 : decode b_L_law 273 = .ok (.aload_n 3, 1) := by decide +kernel
theorem d_L_law_274 : decode b_L_law 274 = .ok (.iconst 0, 1) := by decide +kernel
theorem d_L_law_275 : decode b_L_law 275 = .ok (.laload, 1) := by decide +kernel
theorem d_L_law_276 : decode b_L_law 276 = .ok (.iload 6, 2) := by decide +kernel
theorem d_L_law_278 : decode b_L_law 278 = .ok (.i2l, 1) := by decide +kernel
theorem d_L_law_279 : decode b_L_law 279 = .ok (.lcmp, 1) := by decide +kernel
theorem d_L_law_280 : decode b_L_law 280 = .ok (.ifCond .eq 5, 3) := by decide +kernel
theorem d_L_law_283 : decode b_L_law 283 = .ok (.iconst 0, 1) := by decide +kernel
theorem d_L_law_284 : decode b_L_law 284 = .ok (.ireturn, 1) := by decide +kernel
theorem d_L_law_285 : decode b_L_law 285 = .ok (.goto 649, 3) := by decide +kernel
theorem d_L_law_288 : decode b_L_law 288 = .ok (.aload_n 1, 1) := by decide +kernel
theorem d_L_law_289 : decode b_L_law 289 = .ok (.aload_n 0, 1) := by decide +kernel
theorem d_L_law_290 : decode b_L_law 290 = .ok (.iload 4, 2) := by decide +kernel
theorem d_L_law_292 : decode b_L_law 292 = .ok (.iconst 1, 1) := by decide +kernel
theorem d_L_law_293 : decode b_L_law 293 = .ok (.iadd, 1) := by decide +kernel
theorem d_L_law_294 : decode b_L_law 294 = .ok (.iaload, 1) := by decide +kernel
theorem d_L_law_295 : decode b_L_law 295 = .ok (.aload_n 0, 1) := by decide +kernel
theorem d_L_law_296 : decode b_L_law 296 = .ok (.iload 4, 2) := by decide +kernel
theorem d_L_law_298 : decode b_L_law 298 = .ok (.iconst 2, 1) := by decide +kernel
theorem d_L_law_299 : decode b_L_law 299 = .ok (.iadd, 1) := by decide +kernel
theorem d_L_law_300 : decode b_L_law 300 = .ok (.iaload, 1) := by decide +kernel
theorem d_L_law_301 : decode b_L_law 301 = .ok (.aload_n 3, 1) := by decide +kernel
theorem d_L_law_302 : decode b_L_law 302 = .ok (.invokestatic 74, 3) := by decide +kernel
theorem d_L_law_305 : decode b_L_law 305 = .ok (.istore 5, 2) := by decide +kernel
theorem d_L_law_307 : decode b_L_law 307 = .ok (.aload_n 2, 1) := by decide +kernel
theorem d_L_law_308 : decode b_L_law 308 = .ok (.aload_n 0, 1) := by decide +kernel
theorem d_L_law_309 : decode b_L_law 309 = .ok (.iload 4, 2) := by decide +kernel
theorem d_L_law_311 : decode b_L_law 311 = .ok (.iconst 1, 1) := by decide +kernel
theorem d_L_law_312 : decode b_L_law 312 = .ok (.iadd, 1) := by decide +kernel
theorem d_L_law_313 : decode b_L_law 313 = .ok (.iaload, 1) := by decide +kernel
theorem d_L_law_314 : decode b_L_law 314 = .ok (.aload_n 0, 1) := by decide +kernel
theorem d_L_law_315 : decode b_L_law 315 = .ok (.iload 4, 2) := by decide +kernel
theorem d_L_law_317 : decode b_L_law 317 = .ok (.iconst 2, 1) := by decide +kernel
theorem d_L_law_318 : decode b_L_law 318 = .ok (.iadd, 1) := by decide +kernel
theorem d_L_law_319 : decode b_L_law 319 = .ok (.iaload, 1) := by decide +kernel
theorem d_L_law_320 : decode b_L_law 320 = .ok (.invokevirtual 76, 3) := by decide +kernel
theorem d_L_law_323 : decode b_L_law 323 = .ok (.istore 6, 2) := by decide +kernel
theorem d_L_law_325 : decode b_L_law 325 = .ok (.aload_n 2, 1) := by decide +kernel
theorem d_L_law_326 : decode b_L_law 326 = .ok (.invokevirtual 64, 3) := by decide +kernel
theorem d_L_law_329 : decode b_L_law 329 = .ok (.iload 5, 2) := by decide +kernel
theorem d_L_law_331 : decode b_L_law 331 = .ok (.if_icmp .eq 5, 3) := by decide +kernel
theorem d_L_law_334 : decode b_L_law 334 = .ok (.iconst 0, 1) := by decide +kernel
theorem d_L_law_335 : decode b_L_law 335 = .ok (.ireturn, 1) := by decide +kernel
theorem d_L_law_336 : decode b_L_law 336 = .ok (.iload 5, 2) := by decide +kernel
theorem d_L_law_338 : decode b_L_law 338 = .ok (.ifCond .ne 22, 3) := by decide +kernel
theorem d_L_law_341 : decode b_L_law 341 = .ok (.aload_n 3, 1) := by decide +kernel
theorem d_L_law_342 : decode b_L_law 342 = .ok (.iconst 0, 1) := by decide +kernel
theorem d_L_law_343 : decode b_L_law 343 = .ok (.laload, 1) := by decide +kernel
theorem d_L_law_344 : decode b_L_law 344 = .ok (.iload 6, 2) := by decide +kernel
theorem d_L_law_346 : decode b_L_law 346 = .ok (.ifCond .eq 7, 3) := by decide +kernel
theorem d_L_law_349 : decode b_L_law 349 = .ok (.lconst 1, 1) := by decide +kernel
theorem d_L_law_350 : decode b_L_law 350 = .ok (.goto 4, 3) := by decide +kernel
theorem d_L_law_353 : decode b_L_law 353 = .ok (.lconst 0, 1) := by decide +kernel
theorem d_L_law_354 : decode b_L_law 354 = .ok (.lcmp, 1) := by decide +kernel
theorem d_L_law_355 : decode b_L_law 355 = .ok (.ifCond .eq 5, 3) := by decide +kernel
theorem d_L_law_358 : decode b_L_law 358 = .ok (.iconst 0, 1) := by decide +kernel
theorem d_L_law_359 : decode b_L_law 359 = .ok (.ireturn, 1) := by decide +kernel
theorem d_L_law_360 : decode b_L_law 360 = .ok (.goto 574, 3) := by decide +kernel
theorem d_L_law_363 : decode b_L_law 363 = .ok (.aload_n 1, 1) := by decide +kernel
theorem d_L_law_364 : decode b_L_law 364 = .ok (.aload_n 0, 1) := by decide +kernel
theorem d_L_law_365 : decode b_L_law 365 = .ok (.iload 4, 2) := by decide +kernel
theorem d_L_law_367 : decode b_L_law 367 = .ok (.iconst 1, 1) := by decide +kernel
theorem d_L_law_368 : decode b_L_law 368 = .ok (.iadd, 1) := by decide +kernel
theorem d_L_law_369 : decode b_L_law 369 = .ok (.iaload, 1) := by decide +kernel
theorem d_L_law_370 : decode b_L_law 370 = .ok (.aload_n 0, 1) := by decide +kernel
theorem d_L_law_371 : decode b_L_law 371 = .ok (.iload 4, 2) := by decide +kernel
theorem d_L_law_373 : decode b_L_law 373 = .ok (.iconst 2, 1) := by decide +kernel
theorem d_L_law_374 : decode b_L_law 374 = .ok (.iadd, 1) := by decide +kernel
theorem d_L_law_375 : decode b_L_law 375 = .ok (.iaload, 1) := by decide +kernel
theorem d_L_law_376 : decode b_L_law 376 = .ok (.aload_n 3, 1) := by decide +kernel
theorem d_L_law_377 : decode b_L_law 377 = .ok (.invokestatic 77, 3) := by decide +kernel
theorem d_L_law_380 : decode b_L_law 380 = .ok (.istore 5, 2) := by decide +kernel
theorem d_L_law_382 : decode b_L_law 382 = .ok (.aload_n 2, 1) := by decide +kernel
theorem d_L_law_383 : decode b_L_law 383 = .ok (.aload_n 0, 1) := by decide +kernel
theorem d_L_law_384 : decode b_L_law 384 = .ok (.iload 4, 2) := by decide +kernel
theorem d_L_law_386 : decode b_L_law 386 = .ok (.iconst 1, 1) := by decide +kernel
theorem d_L_law_387 : decode b_L_law 387 = .ok (.iadd, 1) := by decide +kernel
theorem d_L_law_388 : decode b_L_law 388 = .ok (.iaload, 1) := by decide +kernel
theorem d_L_law_389 : decode b_L_law 389 = .ok (.aload_n 0, 1) := by decide +kernel
theorem d_L_law_390 : decode b_L_law 390 = .ok (.iload 4, 2) := by decide +kernel
theorem d_L_law_392 : decode b_L_law 392 = .ok (.iconst 2, 1) := by decide +kernel
theorem d_L_law_393 : decode b_L_law 393 = .ok (.iadd, 1) := by decide +kernel
theorem d_L_law_394 : decode b_L_law 394 = .ok (.iaload, 1) := by decide +kernel
theorem d_L_law_395 : decode b_L_law 395 = .ok (.invokevirtual 79, 3) := by decide +kernel
theorem d_L_law_398 : decode b_L_law 398 = .ok (.istore 6, 2) := by decide +kernel
theorem d_L_law_400 : decode b_L_law 400 = .ok (.aload_n 2, 1) := by decide +kernel
theorem d_L_law_401 : decode b_L_law 401 = .ok (.invokevirtual 64, 3) := by decide +kernel
theorem d_L_law_404 : decode b_L_law 404 = .ok (.iload 5, 2) := by decide +kernel
theorem d_L_law_406 : decode b_L_law 406 = .ok (.if_icmp .eq 5, 3) := by decide +kernel
theorem d_L_law_409 : decode b_L_law 409 = .ok (.iconst 0, 1) := by decide +kernel
theorem d_L_law_410 : decode b_L_law 410 = .ok (.ireturn, 1) := by decide +kernel
theorem d_L_law_411 : decode b_L_law 411 = .ok (.iload 5, 2) := by decide +kernel
theorem d_L_law_413 : decode b_L_law 413 = .ok (.ifCond .ne 22, 3) := by decide +kernel
theorem d_L_law_416 : decode b_L_law 416 = .ok (.aload_n 3, 1) := by decide +kernel
theorem d_L_law_417 : decode b_L_law 417 = .ok (.iconst 0, 1) := by decide +kernel
theorem d_L_law_418 : decode b_L_law 418 = .ok (.laload, 1) := by decide +kernel
theorem d_L_law_419 : decode b_L_law 419 = .ok (.iload 6, 2) := by decide +kernel
theorem d_L_law_421 : decode b_L_law 421 = .ok (.ifCond .eq 7, 3) := by decide +kernel
theorem d_L_law_424 : decode b_L_law 424 = .ok (.lconst 1, 1) := by decide +kernel
theorem d_L_law_425 : decode b_L_law 425 = .ok (.goto 4, 3) := by decide +kernel
theorem d_L_law_428 : decode b_L_law 428 = .ok (.lconst 0, 1) := by decide +kernel
theorem d_L_law_429 : decode b_L_law 429 = .ok (.lcmp, 1) := by decide +kernel
theorem d_L_law_430 : decode b_L_law 430 = .ok (.ifCond .eq 5, 3) := by decide +kernel
theorem d_L_law_433 : decode b_L_law 433 = .ok (.iconst 0, 1) := by decide +kernel
theorem d_L_law_434 : decode b_L_law 434 = .ok (.ireturn, 1) := by decide +kernel
theorem d_L_law_435 : decode b_L_law 435 = .ok (.goto 499, 3) := by decide +kernel
theorem d_L_law_438 : decode b_L_law 438 = .ok (.aload_n 1, 1) := by decide +kernel
theorem d_L_law_439 : decode b_L_law 439 = .ok (.aload_n 0, 1) := by decide +kernel
theorem d_L_law_440 : decode b_L_law 440 = .ok (.iload 4, 2) := by decide +kernel
theorem d_L_law_442 : decode b_L_law 442 = .ok (.iconst 1, 1) := by decide +kernel
theorem d_L_law_443 : decode b_L_law 443 = .ok (.iadd, 1) := by decide +kernel
theorem d_L_law_444 : decode b_L_law 444 = .ok (.iaload, 1) := by decide +kernel
theorem d_L_law_445 : decode b_L_law 445 = .ok (.aload_n 0, 1) := by decide +kernel
theorem d_L_law_446 : decode b_L_law 446 = .ok (.iload 4, 2) := by decide +kernel
theorem d_L_law_448 : decode b_L_law 448 = .ok (.iconst 2, 1) := by decide +kernel
theorem d_L_law_449 : decode b_L_law 449 = .ok (.iadd, 1) := by decide +kernel
theorem d_L_law_450 : decode b_L_law 450 = .ok (.iaload, 1) := by decide +kernel
theorem d_L_law_451 : decode b_L_law 451 = .ok (.aload_n 3, 1) := by decide +kernel
theorem d_L_law_452 : decode b_L_law 452 = .ok (.invokestatic 80, 3) := by decide +kernel
theorem d_L_law_455 : decode b_L_law 455 = .ok (.istore 5, 2) := by decide +kernel
theorem d_L_law_457 : decode b_L_law 457 = .ok (.aload_n 2, 1) := by decide +kernel
theorem d_L_law_458 : decode b_L_law 458 = .ok (.aload_n 0, 1) := by decide +kernel
theorem d_L_law_459 : decode b_L_law 459 = .ok (.iload 4, 2) := by decide +kernel
theorem d_L_law_461 : decode b_L_law 461 = .ok (.iconst 1, 1) := by decide +kernel
theorem d_L_law_462 : decode b_L_law 462 = .ok (.iadd, 1) := by decide +kernel
theorem d_L_law_463 : decode b_L_law 463 = .ok (.iaload, 1) := by decide +kernel
theorem d_L_law_464 : decode b_L_law 464 = .ok (.aload_n 0, 1) := by decide +kernel
theorem d_L_law_465 : decode b_L_law 465 = .ok (.iload 4, 2) := by decide +kernel
theorem d_L_law_467 : decode b_L_law 467 = .ok (.iconst 2, 1) := by decide +kernel
theorem d_L_law_468 : decode b_L_law 468 = .ok (.iadd, 1) := by decide +kernel
theorem d_L_law_469 : decode b_L_law 469 = .ok (.iaload, 1) := by decide +kernel
theorem d_L_law_470 : decode b_L_law 470 = .ok (.invokevirtual 82, 3) := by decide +kernel
theorem d_L_law_473 : decode b_L_law 473 = .ok (.istore 6, 2) := by decide +kernel
theorem d_L_law_475 : decode b_L_law 475 = .ok (.aload_n 2, 1) := by decide +kernel
theorem d_L_law_476 : decode b_L_law 476 = .ok (.invokevirtual 64, 3) := by decide +kernel
theorem d_L_law_479 : decode b_L_law 479 = .ok (.iload 5, 2) := by decide +kernel
theorem d_L_law_481 : decode b_L_law 481 = .ok (.if_icmp .eq 5, 3) := by decide +kernel
theorem d_L_law_484 : decode b_L_law 484 = .ok (.iconst 0, 1) := by decide +kernel
theorem d_L_law_485 : decode b_L_law 485 = .ok (.ireturn, 1) := by decide +kernel
theorem d_L_law_486 : decode b_L_law 486 = .ok (.iload 5, 2) := by decide +kernel
theorem d_L_law_488 : decode b_L_law 488 = .ok (.ifCond .ne 22, 3) := by decide +kernel
theorem d_L_law_491 : decode b_L_law 491 = .ok (.aload_n 3, 1) := by decide +kernel
theorem d_L_law_492 : decode b_L_law 492 = .ok (.iconst 0, 1) := by decide +kernel
theorem d_L_law_493 : decode b_L_law 493 = .ok (.laload, 1) := by decide +kernel
theorem d_L_law_494 : decode b_L_law 494 = .ok (.iload 6, 2) := by decide +kernel
theorem d_L_law_496 : decode b_L_law 496 = .ok (.ifCond .eq 7, 3) := by decide +kernel
theorem d_L_law_499 : decode b_L_law 499 = .ok (.lconst 1, 1) := by decide +kernel
theorem d_L_law_500 : decode b_L_law 500 = .ok (.goto 4, 3) := by decide +kernel
theorem d_L_law_503 : decode b_L_law 503 = .ok (.lconst 0, 1) := by decide +kernel
theorem d_L_law_504 : decode b_L_law 504 = .ok (.lcmp, 1) := by decide +kernel
theorem d_L_law_505 : decode b_L_law 505 = .ok (.ifCond .eq 5, 3) := by decide +kernel
theorem d_L_law_508 : decode b_L_law 508 = .ok (.iconst 0, 1) := by decide +kernel
theorem d_L_law_509 : decode b_L_law 509 = .ok (.ireturn, 1) := by decide +kernel
theorem d_L_law_510 : decode b_L_law 510 = .ok (.goto 424, 3) := by decide +kernel
theorem d_L_law_513 : decode b_L_law 513 = .ok (.aload_n 1, 1) := by decide +kernel
theorem d_L_law_514 : decode b_L_law 514 = .ok (.aload_n 0, 1) := by decide +kernel
theorem d_L_law_515 : decode b_L_law 515 = .ok (.iload 4, 2) := by decide +kernel
theorem d_L_law_517 : decode b_L_law 517 = .ok (.iconst 1, 1) := by decide +kernel
theorem d_L_law_518 : decode b_L_law 518 = .ok (.iadd, 1) := by decide +kernel
theorem d_L_law_519 : decode b_L_law 519 = .ok (.iaload, 1) := by decide +kernel
theorem d_L_law_520 : decode b_L_law 520 = .ok (.aload_n 0, 1) := by decide +kernel
theorem d_L_law_521 : decode b_L_law 521 = .ok (.iload 4, 2) := by decide +kernel
theorem d_L_law_523 : decode b_L_law 523 = .ok (.iconst 2, 1) := by decide +kernel
theorem d_L_law_524 : decode b_L_law 524 = .ok (.iadd, 1) := by decide +kernel
theorem d_L_law_525 : decode b_L_law 525 = .ok (.iaload, 1) := by decide +kernel
theorem d_L_law_526 : decode b_L_law 526 = .ok (.aload_n 3, 1) := by decide +kernel
theorem d_L_law_527 : decode b_L_law 527 = .ok (.invokestatic 83, 3) := by decide +kernel
theorem d_L_law_530 : decode b_L_law 530 = .ok (.istore 5, 2) := by decide +kernel
theorem d_L_law_532 : decode b_L_law 532 = .ok (.aload_n 2, 1) := by decide +kernel
theorem d_L_law_533 : decode b_L_law 533 = .ok (.aload_n 0, 1) := by decide +kernel
theorem d_L_law_534 : decode b_L_law 534 = .ok (.iload 4, 2) := by decide +kernel
theorem d_L_law_536 : decode b_L_law 536 = .ok (.iconst 1, 1) := by decide +kernel
theorem d_L_law_537 : decode b_L_law 537 = .ok (.iadd, 1) := by decide +kernel
theorem d_L_law_538 : decode b_L_law 538 = .ok (.iaload, 1) := by decide +kernel
theorem d_L_law_539 : decode b_L_law 539 = .ok (.aload_n 0, 1) := by decide +kernel
theorem d_L_law_540 : decode b_L_law 540 = .ok (.iload 4, 2) := by decide +kernel
theorem d_L_law_542 : decode b_L_law 542 = .ok (.iconst 2, 1) := by decide +kernel
theorem d_L_law_543 : decode b_L_law 543 = .ok (.iadd, 1) := by decide +kernel
theorem d_L_law_544 : decode b_L_law 544 = .ok (.iaload, 1) := by decide +kernel
theorem d_L_law_545 : decode b_L_law 545 = .ok (.invokevirtual 85, 3) := by decide +kernel
theorem d_L_law_548 : decode b_L_law 548 = .ok (.istore 6, 2) := by decide +kernel
theorem d_L_law_550 : decode b_L_law 550 = .ok (.aload_n 2, 1) := by decide +kernel
theorem d_L_law_551 : decode b_L_law 551 = .ok (.invokevirtual 64, 3) := by decide +kernel
theorem d_L_law_554 : decode b_L_law 554 = .ok (.iload 5, 2) := by decide +kernel
theorem d_L_law_556 : decode b_L_law 556 = .ok (.if_icmp .eq 5, 3) := by decide +kernel
theorem d_L_law_559 : decode b_L_law 559 = .ok (.iconst 0, 1) := by decide +kernel
theorem d_L_law_560 : decode b_L_law 560 = .ok (.ireturn, 1) := by decide +kernel
theorem d_L_law_561 : decode b_L_law 561 = .ok (.iload 5, 2) := by decide +kernel
theorem d_L_law_563 : decode b_L_law 563 = .ok (.ifCond .ne 22, 3) := by decide +kernel
theorem d_L_law_566 : decode b_L_law 566 = .ok (.aload_n 3, 1) := by decide +kernel
theorem d_L_law_567 : decode b_L_law 567 = .ok (.iconst 0, 1) := by decide +kernel
theorem d_L_law_568 : decode b_L_law 568 = .ok (.laload, 1) := by decide +kernel
theorem d_L_law_569 : decode b_L_law 569 = .ok (.iload 6, 2) := by decide +kernel
theorem d_L_law_571 : decode b_L_law 571 = .ok (.ifCond .eq 7, 3) := by decide +kernel
theorem d_L_law_574 : decode b_L_law 574 = .ok (.lconst 1, 1) := by decide +kernel
theorem d_L_law_575 : decode b_L_law 575 = .ok (.goto 4, 3) := by decide +kernel
theorem d_L_law_578 : decode b_L_law 578 = .ok (.lconst 0, 1) := by decide +kernel
theorem d_L_law_579 : decode b_L_law 579 = .ok (.lcmp, 1) := by decide +kernel
theorem d_L_law_580 : decode b_L_law 580 = .ok (.ifCond .eq 5, 3) := by decide +kernel
theorem d_L_law_583 : decode b_L_law 583 = .ok (.iconst 0, 1) := by decide +kernel
theorem d_L_law_584 : decode b_L_law 584 = .ok (.ireturn, 1) := by decide +kernel
theorem d_L_law_585 : decode b_L_law 585 = .ok (.goto 349, 3) := by decide +kernel
theorem d_L_law_588 : decode b_L_law 588 = .ok (.aload_n 1, 1) := by decide +kernel
theorem d_L_law_589 : decode b_L_law 589 = .ok (.aload_n 0, 1) := by decide +kernel
theorem d_L_law_590 : decode b_L_law 590 = .ok (.iload 4, 2) := by decide +kernel
theorem d_L_law_592 : decode b_L_law 592 = .ok (.iconst 1, 1) := by decide +kernel
theorem d_L_law_593 : decode b_L_law 593 = .ok (.iadd, 1) := by decide +kernel
theorem d_L_law_594 : decode b_L_law 594 = .ok (.iaload, 1) := by decide +kernel
theorem d_L_law_595 : decode b_L_law 595 = .ok (.aload_n 3, 1) := by decide +kernel
theorem d_L_law_596 : decode b_L_law 596 = .ok (.invokestatic 86, 3) := by decide +kernel
theorem d_L_law_599 : decode b_L_law 599 = .ok (.istore 5, 2) := by decide +kernel
theorem d_L_law_601 : decode b_L_law 601 = .ok (.aload_n 2, 1) := by decide +kernel
theorem d_L_law_602 : decode b_L_law 602 = .ok (.aload_n 0, 1) := by decide +kernel
theorem d_L_law_603 : decode b_L_law 603 = .ok (.iload 4, 2) := by decide +kernel
theorem d_L_law_605 : decode b_L_law 605 = .ok (.iconst 1, 1) := by decide +kernel
theorem d_L_law_606 : decode b_L_law 606 = .ok (.iadd, 1) := by decide +kernel
theorem d_L_law_607 : decode b_L_law 607 = .ok (.iaload, 1) := by decide +kernel
theorem d_L_law_608 : decode b_L_law 608 = .ok (.invokevirtual 89, 3) := by decide +kernel
theorem d_L_law_611 : decode b_L_law 611 = .ok (.istore 6, 2) := by decide +kernel
theorem d_L_law_613 : decode b_L_law 613 = .ok (.aload_n 2, 1) := by decide +kernel
theorem d_L_law_614 : decode b_L_law 614 = .ok (.invokevirtual 64, 3) := by decide +kernel
theorem d_L_law_617 : decode b_L_law 617 = .ok (.iload 5, 2) := by decide +kernel
theorem d_L_law_619 : decode b_L_law 619 = .ok (.if_icmp .eq 5, 3) := by decide +kernel
theorem d_L_law_622 : decode b_L_law 622 = .ok (.iconst 0, 1) := by decide +kernel
theorem d_L_law_623 : decode b_L_law 623 = .ok (.ireturn, 1) := by decide +kernel
theorem d_L_law_624 : decode b_L_law 624 = .ok (.iload 5, 2) := by decide +kernel
theorem d_L_law_626 : decode b_L_law 626 = .ok (.ifCond .ne 15, 3) := by decide +kernel
theorem d_L_law_629 : decode b_L_law 629 = .ok (.aload_n 3, 1) := by decide +kernel
theorem d_L_law_630 : decode b_L_law 630 = .ok (.iconst 0, 1) := by decide +kernel
theorem d_L_law_631 : decode b_L_law 631 = .ok (.laload, 1) := by decide +kernel
theorem d_L_law_632 : decode b_L_law 632 = .ok (.iload 6, 2) := by decide +kernel
theorem d_L_law_634 : decode b_L_law 634 = .ok (.i2l, 1) := by decide +kernel
theorem d_L_law_635 : decode b_L_law 635 = .ok (.lcmp, 1) := by decide +kernel
theorem d_L_law_636 : decode b_L_law 636 = .ok (.ifCond .eq 5, 3) := by decide +kernel
theorem d_L_law_639 : decode b_L_law 639 = .ok (.iconst 0, 1) := by decide +kernel
theorem d_L_law_640 : decode b_L_law 640 = .ok (.ireturn, 1) := by decide +kernel
theorem d_L_law_641 : decode b_L_law 641 = .ok (.goto 293, 3) := by decide +kernel
theorem d_L_law_644 : decode b_L_law 644 = .ok (.aload_n 1, 1) := by decide +kernel
theorem d_L_law_645 : decode b_L_law 645 = .ok (.aload_n 0, 1) := by decide +kernel
theorem d_L_law_646 : decode b_L_law 646 = .ok (.iload 4, 2) := by decide +kernel
theorem d_L_law_648 : decode b_L_law 648 = .ok (.iconst 1, 1) := by decide +kernel
theorem d_L_law_649 : decode b_L_law 649 = .ok (.iadd, 1) := by decide +kernel
theorem d_L_law_650 : decode b_L_law 650 = .ok (.iaload, 1) := by decide +kernel
theorem d_L_law_651 : decode b_L_law 651 = .ok (.aload_n 0, 1) := by decide +kernel
theorem d_L_law_652 : decode b_L_law 652 = .ok (.iload 4, 2) := by decide +kernel
theorem d_L_law_654 : decode b_L_law 654 = .ok (.iconst 2, 1) := by decide +kernel
theorem d_L_law_655 : decode b_L_law 655 = .ok (.iadd, 1) := by decide +kernel
theorem d_L_law_656 : decode b_L_law 656 = .ok (.iaload, 1) := by decide +kernel
theorem d_L_law_657 : decode b_L_law 657 = .ok (.ifCond .eq 7, 3) := by decide +kernel
theorem d_L_law_660 : decode b_L_law 660 = .ok (.iconst 1, 1) := by decide +kernel
theorem d_L_law_661 : decode b_L_law 661 = .ok (.goto 4, 3) := by decide +kernel
theorem d_L_law_664 : decode b_L_law 664 = .ok (.iconst 0, 1) := by decide +kernel
theorem d_L_law_665 : decode b_L_law 665 = .ok (.aload_n 3, 1) := by decide +kernel
theorem d_L_law_666 : decode b_L_law 666 = .ok (.invokestatic 90, 3) := by decide +kernel
theorem d_L_law_669 : decode b_L_law 669 = .ok (.istore 5, 2) := by decide +kernel
theorem d_L_law_671 : decode b_L_law 671 = .ok (.aload_n 2, 1) := by decide +kernel
theorem d_L_law_672 : decode b_L_law 672 = .ok (.aload_n 0, 1) := by decide +kernel
theorem d_L_law_673 : decode b_L_law 673 = .ok (.iload 4, 2) := by decide +kernel
theorem d_L_law_675 : decode b_L_law 675 = .ok (.iconst 1, 1) := by decide +kernel
theorem d_L_law_676 : decode b_L_law 676 = .ok (.iadd, 1) := by decide +kernel
theorem d_L_law_677 : decode b_L_law 677 = .ok (.iaload, 1) := by decide +kernel
theorem d_L_law_678 : decode b_L_law 678 = .ok (.aload_n 0, 1) := by decide +kernel
theorem d_L_law_679 : decode b_L_law 679 = .ok (.iload 4, 2) := by decide +kernel
theorem d_L_law_681 : decode b_L_law 681 = .ok (.iconst 2, 1) := by decide +kernel
theorem d_L_law_682 : decode b_L_law 682 = .ok (.iadd, 1) := by decide +kernel
theorem d_L_law_683 : decode b_L_law 683 = .ok (.iaload, 1) := by decide +kernel
theorem d_L_law_684 : decode b_L_law 684 = .ok (.ifCond .eq 7, 3) := by decide +kernel
theorem d_L_law_687 : decode b_L_law 687 = .ok (.iconst 1, 1) := by decide +kernel
theorem d_L_law_688 : decode b_L_law 688 = .ok (.goto 4, 3) := by decide +kernel
theorem d_L_law_691 : decode b_L_law 691 = .ok (.iconst 0, 1) := by decide +kernel
theorem d_L_law_692 : decode b_L_law 692 = .ok (.invokevirtual 93, 3) := by decide +kernel
theorem d_L_law_695 : decode b_L_law 695 = .ok (.istore 6, 2) := by decide +kernel
theorem d_L_law_697 : decode b_L_law 697 = .ok (.aload_n 2, 1) := by decide +kernel
theorem d_L_law_698 : decode b_L_law 698 = .ok (.invokevirtual 64, 3) := by decide +kernel
theorem d_L_law_701 : decode b_L_law 701 = .ok (.iload 5, 2) := by decide +kernel
theorem d_L_law_703 : decode b_L_law 703 = .ok (.if_icmp .eq 5, 3) := by decide +kernel
theorem d_L_law_706 : decode b_L_law 706 = .ok (.iconst 0, 1) := by decide +kernel
theorem d_L_law_707 : decode b_L_law 707 = .ok (.ireturn, 1) := by decide +kernel
theorem d_L_law_708 : decode b_L_law 708 = .ok (.iload 5, 2) := by decide +kernel
theorem d_L_law_710 : decode b_L_law 710 = .ok (.ifCond .ne 15, 3) := by decide +kernel
theorem d_L_law_713 : decode b_L_law 713 = .ok (.aload_n 3, 1) := by decide +kernel
theorem d_L_law_714 : decode b_L_law 714 = .ok (.iconst 0, 1) := by decide +kernel
theorem d_L_law_715 : decode b_L_law 715 = .ok (.laload, 1) := by decide +kernel
theorem d_L_law_716 : decode b_L_law 716 = .ok (.iload 6, 2) := by decide +kernel
theorem d_L_law_718 : decode b_L_law 718 = .ok (.i2l, 1) := by decide +kernel
theorem d_L_law_719 : decode b_L_law 719 = .ok (.lcmp, 1) := by decide +kernel
theorem d_L_law_720 : decode b_L_law 720 = .ok (.ifCond .eq 5, 3) := by decide +kernel
theorem d_L_law_723 : decode b_L_law 723 = .ok (.iconst 0, 1) := by decide +kernel
theorem d_L_law_724 : decode b_L_law 724 = .ok (.ireturn, 1) := by decide +kernel
theorem d_L_law_725 : decode b_L_law 725 = .ok (.goto 209, 3) := by decide +kernel
theorem d_L_law_728 : decode b_L_law 728 = .ok (.aload_n 1, 1) := by decide +kernel
theorem d_L_law_729 : decode b_L_law 729 = .ok (.aload_n 0, 1) := by decide +kernel
theorem d_L_law_730 : decode b_L_law 730 = .ok (.iload 4, 2) := by decide +kernel
theorem d_L_law_732 : decode b_L_law 732 = .ok (.iconst 1, 1) := by decide +kernel
theorem d_L_law_733 : decode b_L_law 733 = .ok (.iadd, 1) := by decide +kernel
theorem d_L_law_734 : decode b_L_law 734 = .ok (.iaload, 1) := by decide +kernel
theorem d_L_law_735 : decode b_L_law 735 = .ok (.aload_n 3, 1) := by decide +kernel
theorem d_L_law_736 : decode b_L_law 736 = .ok (.invokestatic 94, 3) := by decide +kernel
theorem d_L_law_739 : decode b_L_law 739 = .ok (.istore 5, 2) := by decide +kernel
theorem d_L_law_741 : decode b_L_law 741 = .ok (.aload_n 2, 1) := by decide +kernel
theorem d_L_law_742 : decode b_L_law 742 = .ok (.aload_n 0, 1) := by decide +kernel
theorem d_L_law_743 : decode b_L_law 743 = .ok (.iload 4, 2) := by decide +kernel
theorem d_L_law_745 : decode b_L_law 745 = .ok (.iconst 1, 1) := by decide +kernel
theorem d_L_law_746 : decode b_L_law 746 = .ok (.iadd, 1) := by decide +kernel
theorem d_L_law_747 : decode b_L_law 747 = .ok (.iaload, 1) := by decide +kernel
theorem d_L_law_748 : decode b_L_law 748 = .ok (.invokevirtual 96, 3) := by decide +kernel
theorem d_L_law_751 : decode b_L_law 751 = .ok (.istore 6, 2) := by decide +kernel
theorem d_L_law_753 : decode b_L_law 753 = .ok (.aload_n 2, 1) := by decide +kernel
theorem d_L_law_754 : decode b_L_law 754 = .ok (.invokevirtual 64, 3) := by decide +kernel
theorem d_L_law_757 : decode b_L_law 757 = .ok (.iload 5, 2) := by decide +kernel
theorem d_L_law_759 : decode b_L_law 759 = .ok (.if_icmp .eq 5, 3) := by decide +kernel
theorem d_L_law_762 : decode b_L_law 762 = .ok (.iconst 0, 1) := by decide +kernel
theorem d_L_law_763 : decode b_L_law 763 = .ok (.ireturn, 1) := by decide +kernel
theorem d_L_law_764 : decode b_L_law 764 = .ok (.iload 5, 2) := by decide +kernel
theorem d_L_law_766 : decode b_L_law 766 = .ok (.ifCond .ne 15, 3) := by decide +kernel
theorem d_L_law_769 : decode b_L_law 769 = .ok (.aload_n 3, 1) := by decide +kernel
theorem d_L_law_770 : decode b_L_law 770 = .ok (.iconst 0, 1) := by decide +kernel
theorem d_L_law_771 : decode b_L_law 771 = .ok (.laload, 1) := by decide +kernel
theorem d_L_law_772 : decode b_L_law 772 = .ok (.iload 6, 2) := by decide +kernel
theorem d_L_law_774 : decode b_L_law 774 = .ok (.i2l, 1) := by decide +kernel
theorem d_L_law_775 : decode b_L_law 775 = .ok (.lcmp, 1) := by decide +kernel
theorem d_L_law_776 : decode b_L_law 776 = .ok (.ifCond .eq 5, 3) := by decide +kernel
theorem d_L_law_779 : decode b_L_law 779 = .ok (.iconst 0, 1) := by decide +kernel
theorem d_L_law_780 : decode b_L_law 780 = .ok (.ireturn, 1) := by decide +kernel
theorem d_L_law_781 : decode b_L_law 781 = .ok (.goto 153, 3) := by decide +kernel
theorem d_L_law_784 : decode b_L_law 784 = .ok (.aload_n 1, 1) := by decide +kernel
theorem d_L_law_785 : decode b_L_law 785 = .ok (.aload_n 0, 1) := by decide +kernel
theorem d_L_law_786 : decode b_L_law 786 = .ok (.iload 4, 2) := by decide +kernel
theorem d_L_law_788 : decode b_L_law 788 = .ok (.iconst 1, 1) := by decide +kernel
theorem d_L_law_789 : decode b_L_law 789 = .ok (.iadd, 1) := by decide +kernel
theorem d_L_law_790 : decode b_L_law 790 = .ok (.iaload, 1) := by decide +kernel
theorem d_L_law_791 : decode b_L_law 791 = .ok (.aload_n 3, 1) := by decide +kernel
theorem d_L_law_792 : decode b_L_law 792 = .ok (.invokestatic 97, 3) := by decide +kernel
theorem d_L_law_795 : decode b_L_law 795 = .ok (.istore 5, 2) := by decide +kernel
theorem d_L_law_797 : decode b_L_law 797 = .ok (.aload_n 2, 1) := by decide +kernel
theorem d_L_law_798 : decode b_L_law 798 = .ok (.aload_n 0, 1) := by decide +kernel
theorem d_L_law_799 : decode b_L_law 799 = .ok (.iload 4, 2) := by decide +kernel
theorem d_L_law_801 : decode b_L_law 801 = .ok (.iconst 1, 1) := by decide +kernel
theorem d_L_law_802 : decode b_L_law 802 = .ok (.iadd, 1) := by decide +kernel
theorem d_L_law_803 : decode b_L_law 803 = .ok (.iaload, 1) := by decide +kernel
theorem d_L_law_804 : decode b_L_law 804 = .ok (.invokevirtual 99, 3) := by decide +kernel
theorem d_L_law_807 : decode b_L_law 807 = .ok (.istore 6, 2) := by decide +kernel
theorem d_L_law_809 : decode b_L_law 809 = .ok (.aload_n 2, 1) := by decide +kernel
theorem d_L_law_810 : decode b_L_law 810 = .ok (.invokevirtual 64, 3) := by decide +kernel
theorem d_L_law_813 : decode b_L_law 813 = .ok (.iload 5, 2) := by decide +kernel
theorem d_L_law_815 : decode b_L_law 815 = .ok (.if_icmp .eq 5, 3) := by decide +kernel
theorem d_L_law_818 : decode b_L_law 818 = .ok (.iconst 0, 1) := by decide +kernel
theorem d_L_law_819 : decode b_L_law 819 = .ok (.ireturn, 1) := by decide +kernel
theorem d_L_law_820 : decode b_L_law 820 = .ok (.iload 5, 2) := by decide +kernel
theorem d_L_law_822 : decode b_L_law 822 = .ok (.ifCond .ne 15, 3) := by decide +kernel
theorem d_L_law_825 : decode b_L_law 825 = .ok (.aload_n 3, 1) := by decide +kernel
theorem d_L_law_826 : decode b_L_law 826 = .ok (.iconst 0, 1) := by decide +kernel
theorem d_L_law_827 : decode b_L_law 827 = .ok (.laload, 1) := by decide +kernel
theorem d_L_law_828 : decode b_L_law 828 = .ok (.iload 6, 2) := by decide +kernel
theorem d_L_law_830 : decode b_L_law 830 = .ok (.i2l, 1) := by decide +kernel
theorem d_L_law_831 : decode b_L_law 831 = .ok (.lcmp, 1) := by decide +kernel
theorem d_L_law_832 : decode b_L_law 832 = .ok (.ifCond .eq 5, 3) := by decide +kernel
theorem d_L_law_835 : decode b_L_law 835 = .ok (.iconst 0, 1) := by decide +kernel
theorem d_L_law_836 : decode b_L_law 836 = .ok (.ireturn, 1) := by decide +kernel
theorem d_L_law_837 : decode b_L_law 837 = .ok (.goto 97, 3) := by decide +kernel
theorem d_L_law_840 : decode b_L_law 840 = .ok (.aload_n 1, 1) := by decide +kernel
theorem d_L_law_841 : decode b_L_law 841 = .ok (.aload_n 0, 1) := by decide +kernel
theorem d_L_law_842 : decode b_L_law 842 = .ok (.iload 4, 2) := by decide +kernel
theorem d_L_law_844 : decode b_L_law 844 = .ok (.iconst 1, 1) := by decide +kernel
theorem d_L_law_845 : decode b_L_law 845 = .ok (.iadd, 1) := by decide +kernel
theorem d_L_law_846 : decode b_L_law 846 = .ok (.iaload, 1) := by decide +kernel
theorem d_L_law_847 : decode b_L_law 847 = .ok (.aload_n 3, 1) := by decide +kernel
theorem d_L_law_848 : decode b_L_law 848 = .ok (.invokestatic 100, 3) := by decide +kernel
theorem d_L_law_851 : decode b_L_law 851 = .ok (.istore 5, 2) := by decide +kernel
theorem d_L_law_853 : decode b_L_law 853 = .ok (.aload_n 2, 1) := by decide +kernel
theorem d_L_law_854 : decode b_L_law 854 = .ok (.aload_n 0, 1) := by decide +kernel
theorem d_L_law_855 : decode b_L_law 855 = .ok (.iload 4, 2) := by decide +kernel
theorem d_L_law_857 : decode b_L_law 857 = .ok (.iconst 1, 1) := by decide +kernel
theorem d_L_law_858 : decode b_L_law 858 = .ok (.iadd, 1) := by decide +kernel
theorem d_L_law_859 : decode b_L_law 859 = .ok (.iaload, 1) := by decide +kernel
theorem d_L_law_860 : decode b_L_law 860 = .ok (.invokevirtual 102, 3) := by decide +kernel
theorem d_L_law_863 : decode b_L_law 863 = .ok (.istore 6, 2) := by decide +kernel
theorem d_L_law_865 : decode b_L_law 865 = .ok (.aload_n 2, 1) := by decide +kernel
theorem d_L_law_866 : decode b_L_law 866 = .ok (.invokevirtual 64, 3) := by decide +kernel
theorem d_L_law_869 : decode b_L_law 869 = .ok (.iload 5, 2) := by decide +kernel
theorem d_L_law_871 : decode b_L_law 871 = .ok (.if_icmp .eq 5, 3) := by decide +kernel
theorem d_L_law_874 : decode b_L_law 874 = .ok (.iconst 0, 1) := by decide +kernel
theorem d_L_law_875 : decode b_L_law 875 = .ok (.ireturn, 1) := by decide +kernel
theorem d_L_law_876 : decode b_L_law 876 = .ok (.iload 5, 2) := by decide +kernel
theorem d_L_law_878 : decode b_L_law 878 = .ok (.ifCond .ne 15, 3) := by decide +kernel
theorem d_L_law_881 : decode b_L_law 881 = .ok (.aload_n 3, 1) := by decide +kernel
theorem d_L_law_882 : decode b_L_law 882 = .ok (.iconst 0, 1) := by decide +kernel
theorem d_L_law_883 : decode b_L_law 883 = .ok (.laload, 1) := by decide +kernel
theorem d_L_law_884 : decode b_L_law 884 = .ok (.iload 6, 2) := by decide +kernel
theorem d_L_law_886 : decode b_L_law 886 = .ok (.i2l, 1) := by decide +kernel
theorem d_L_law_887 : decode b_L_law 887 = .ok (.lcmp, 1) := by decide +kernel
theorem d_L_law_888 : decode b_L_law 888 = .ok (.ifCond .eq 5, 3) := by decide +kernel
theorem d_L_law_891 : decode b_L_law 891 = .ok (.iconst 0, 1) := by decide +kernel
theorem d_L_law_892 : decode b_L_law 892 = .ok (.ireturn, 1) := by decide +kernel
theorem d_L_law_893 : decode b_L_law 893 = .ok (.goto 41, 3) := by decide +kernel
theorem d_L_law_896 : decode b_L_law 896 = .ok (.aload_n 1, 1) := by decide +kernel
theorem d_L_law_897 : decode b_L_law 897 = .ok (.invokevirtual 103, 3) := by decide +kernel
theorem d_L_law_900 : decode b_L_law 900 = .ok (.aload_n 2, 1) := by decide +kernel
theorem d_L_law_901 : decode b_L_law 901 = .ok (.invokevirtual 106, 3) := by decide +kernel
theorem d_L_law_904 : decode b_L_law 904 = .ok (.if_icmp .eq 30, 3) := by decide +kernel
theorem d_L_law_907 : decode b_L_law 907 = .ok (.iconst 0, 1) := by decide +kernel
theorem d_L_law_908 : decode b_L_law 908 = .ok (.ireturn, 1) := by decide +kernel
theorem d_L_law_909 : decode b_L_law 909 = .ok (.aload_n 1, 1) := by decide +kernel
theorem d_L_law_910 : decode b_L_law 910 = .ok (.aload_n 0, 1) := by decide +kernel
theorem d_L_law_911 : decode b_L_law 911 = .ok (.iload 4, 2) := by decide +kernel
theorem d_L_law_913 : decode b_L_law 913 = .ok (.iconst 1, 1) := by decide +kernel
theorem d_L_law_914 : decode b_L_law 914 = .ok (.iadd, 1) := by decide +kernel
theorem d_L_law_915 : decode b_L_law 915 = .ok (.iaload, 1) := by decide +kernel
theorem d_L_law_916 : decode b_L_law 916 = .ok (.invokevirtual 107, 3) := by decide +kernel
theorem d_L_law_919 : decode b_L_law 919 = .ok (.aload_n 2, 1) := by decide +kernel
theorem d_L_law_920 : decode b_L_law 920 = .ok (.aload_n 0, 1) := by decide +kernel
theorem d_L_law_921 : decode b_L_law 921 = .ok (.iload 4, 2) := by decide +kernel
theorem d_L_law_923 : decode b_L_law 923 = .ok (.iconst 1, 1) := by decide +kernel
theorem d_L_law_924 : decode b_L_law 924 = .ok (.iadd, 1) := by decide +kernel
theorem d_L_law_925 : decode b_L_law 925 = .ok (.iaload, 1) := by decide +kernel
theorem d_L_law_926 : decode b_L_law 926 = .ok (.invokevirtual 110, 3) := by decide +kernel
theorem d_L_law_929 : decode b_L_law 929 = .ok (.if_icmp .eq 5, 3) := by decide +kernel
theorem d_L_law_932 : decode b_L_law 932 = .ok (.iconst 0, 1) := by decide +kernel
theorem d_L_law_933 : decode b_L_law 933 = .ok (.ireturn, 1) := by decide +kernel
theorem d_L_law_934 : decode b_L_law 934 = .ok (.iinc 4 3, 3) := by decide +kernel
theorem d_L_law_937 : decode b_L_law 937 = .ok (.goto (-914), 3) := by decide +kernel
theorem d_L_law_940 : decode b_L_law 940 = .ok (.iconst 1, 1) := by decide +kernel
theorem d_L_law_941 : decode b_L_law 941 = .ok (.ireturn, 1) := by decide +kernel
