theorem dX12_init_0 : decode cX12_init 0 = .ok (.aload_n 0, 1) := by decide +kernel
theorem dX12_init_1 : decode cX12_init 1 = .ok (.invokespecial 1, 3) := by decide +kernel
theorem dX12_init_4 : decode cX12_init 4 = .ok (.aload_n 0, 1) := by decide +kernel
theorem dX12_init_5 : decode cX12_init 5 = .ok (.bipush 16, 2) := by decide +kernel
theorem dX12_init_7 : decode cX12_init 7 = .ok (.newarray .int, 2) := by decide +kernel
theorem dX12_init_9 : decode cX12_init 9 = .ok (.putfield 7, 3) := by decide +kernel
theorem dX12_init_12 : decode cX12_init 12 = .ok (.aload_n 0, 1) := by decide +kernel
theorem dX12_init_13 : decode cX12_init 13 = .ok (.sipush 9600, 3) := by decide +kernel
theorem dX12_init_16 : decode cX12_init 16 = .ok (.newarray .int, 2) := by decide +kernel
theorem dX12_init_18 : decode cX12_init 18 = .ok (.putfield 13, 3) := by decide +kernel
theorem dX12_init_21 : decode cX12_init 21 = .ok (.aload_n 0, 1) := by decide +kernel
theorem dX12_init_22 : decode cX12_init 22 = .ok (.bipush 64, 2) := by decide +kernel
theorem dX12_init_24 : decode cX12_init 24 = .ok (.newarray .int, 2) := by decide +kernel
theorem dX12_init_26 : decode cX12_init 26 = .ok (.putfield 16, 3) := by decide +kernel
theorem dX12_init_29 : decode cX12_init 29 = .ok (.aload_n 0, 1) := by decide +kernel
theorem dX12_init_30 : decode cX12_init 30 = .ok (.bipush 64, 2) := by decide +kernel
theorem dX12_init_32 : decode cX12_init 32 = .ok (.newarray .int, 2) := by decide +kernel
theorem dX12_init_34 : decode cX12_init 34 = .ok (.putfield 19, 3) := by decide +kernel
theorem dX12_init_37 : decode cX12_init 37 = .ok (.aload_n 0, 1) := by decide +kernel
theorem dX12_init_38 : decode cX12_init 38 = .ok (.bipush 12, 2) := by decide +kernel
theorem dX12_init_40 : decode cX12_init 40 = .ok (.newarray .int, 2) := by decide +kernel
theorem dX12_init_42 : decode cX12_init 42 = .ok (.putfield 22, 3) := by decide +kernel
theorem dX12_init_45 : decode cX12_init 45 = .ok (.aload_n 0, 1) := by decide +kernel
theorem dX12_init_46 : decode cX12_init 46 = .ok (.bipush 12, 2) := by decide +kernel
theorem dX12_init_48 : decode cX12_init 48 = .ok (.newarray .int, 2) := by decide +kernel
theorem dX12_init_50 : decode cX12_init 50 = .ok (.putfield 25, 3) := by decide +kernel
theorem dX12_init_53 : decode cX12_init 53 = .ok (.aload_n 0, 1) := by decide +kernel
theorem dX12_init_54 : decode cX12_init 54 = .ok (.bipush 12, 2) := by decide +kernel
theorem dX12_init_56 : decode cX12_init 56 = .ok (.newarray .int, 2) := by decide +kernel
theorem dX12_init_58 : decode cX12_init 58 = .ok (.putfield 28, 3) := by decide +kernel
theorem dX12_init_61 : decode cX12_init 61 = .ok (.aload_n 0, 1) := by decide +kernel
theorem dX12_init_62 : decode cX12_init 62 = .ok (.bipush 12, 2) := by decide +kernel
theorem dX12_init_64 : decode cX12_init 64 = .ok (.newarray .int, 2) := by decide +kernel
theorem dX12_init_66 : decode cX12_init 66 = .ok (.putfield 31, 3) := by decide +kernel
theorem dX12_init_69 : decode cX12_init 69 = .ok (.aload_n 0, 1) := by decide +kernel
theorem dX12_init_70 : decode cX12_init 70 = .ok (.bipush 12, 2) := by decide +kernel
theorem dX12_init_72 : decode cX12_init 72 = .ok (.newarray .int, 2) := by decide +kernel
theorem dX12_init_74 : decode cX12_init 74 = .ok (.putfield 34, 3) := by decide +kernel
theorem dX12_init_77 : decode cX12_init 77 = .ok (.aload_n 0, 1) := by decide +kernel
theorem dX12_init_78 : decode cX12_init 78 = .ok (.bipush 12, 2) := by decide +kernel
theorem dX12_init_80 : decode cX12_init 80 = .ok (.newarray .int, 2) := by decide +kernel
theorem dX12_init_82 : decode cX12_init 82 = .ok (.putfield 37, 3) := by decide +kernel
theorem dX12_init_85 : decode cX12_init 85 = .ok (.aload_n 0, 1) := by decide +kernel
theorem dX12_init_86 : decode cX12_init 86 = .ok (.bipush 48, 2) := by decide +kernel
theorem dX12_init_88 : decode cX12_init 88 = .ok (.newarray .int, 2) := by decide +kernel
theorem dX12_init_90 : decode cX12_init 90 = .ok (.putfield 40, 3) := by decide +kernel
theorem dX12_init_93 : decode cX12_init 93 = .ok (.aload_n 0, 1) := by decide +kernel
theorem dX12_init_94 : decode cX12_init 94 = .ok (.bipush 96, 2) := by decide +kernel
theorem dX12_init_96 : decode cX12_init 96 = .ok (.newarray .int, 2) := by decide +kernel
theorem dX12_init_98 : decode cX12_init 98 = .ok (.putfield 43, 3) := by decide +kernel
theorem dX12_init_101 : decode cX12_init 101 = .ok (.aload_n 0, 1) := by decide +kernel
theorem dX12_init_102 : decode cX12_init 102 = .ok (.sipush 1600, 3) := by decide +kernel
theorem dX12_init_105 : decode cX12_init 105 = .ok (.newarray .int, 2) := by decide +kernel
theorem dX12_init_107 : decode cX12_init 107 = .ok (.putfield 46, 3) := by decide +kernel
theorem dX12_init_110 : decode cX12_init 110 = .ok (.aload_n 0, 1) := by decide +kernel
theorem dX12_init_111 : decode cX12_init 111 = .ok (.bipush 8, 2) := by decide +kernel
theorem dX12_init_113 : decode cX12_init 113 = .ok (.newarray .int, 2) := by decide +kernel
theorem dX12_init_115 : decode cX12_init 115 = .ok (.putfield 49, 3) := by decide +kernel
theorem dX12_init_118 : decode cX12_init 118 = .ok (.aload_n 0, 1) := by decide +kernel
theorem dX12_init_119 : decode cX12_init 119 = .ok (.bipush 8, 2) := by decide +kernel
theorem dX12_init_121 : decode cX12_init 121 = .ok (.newarray .int, 2) := by decide +kernel
theorem dX12_init_123 : decode cX12_init 123 = .ok (.putfield 52, 3) := by decide +kernel
theorem dX12_init_126 : decode cX12_init 126 = .ok (.aload_n 0, 1) := by decide +kernel
theorem dX12_init_127 : decode cX12_init 127 = .ok (.bipush 8, 2) := by decide +kernel
theorem dX12_init_129 : decode cX12_init 129 = .ok (.newarray .int, 2) := by decide +kernel
theorem dX12_init_131 : decode cX12_init 131 = .ok (.putfield 55, 3) := by decide +kernel
theorem dX12_init_134 : decode cX12_init 134 = .ok (.aload_n 0, 1) := by decide +kernel
theorem dX12_init_135 : decode cX12_init 135 = .ok (.sipush 200, 3) := by decide +kernel
theorem dX12_init_138 : decode cX12_init 138 = .ok (.newarray .int, 2) := by decide +kernel
theorem dX12_init_140 : decode cX12_init 140 = .ok (.putfield 58, 3) := by decide +kernel
theorem dX12_init_143 : decode cX12_init 143 = .ok (.aload_n 0, 1) := by decide +kernel
theorem dX12_init_144 : decode cX12_init 144 = .ok (.sipush 26368, 3) := by decide +kernel
theorem dX12_init_147 : decode cX12_init 147 = .ok (.newarray .int, 2) := by decide +kernel
theorem dX12_init_149 : decode cX12_init 149 = .ok (.putfield 61, 3) := by decide +kernel
theorem dX12_init_152 : decode cX12_init 152 = .ok (.aload_n 0, 1) := by decide +kernel
theorem dX12_init_153 : decode cX12_init 153 = .ok (.sipush 13184, 3) := by decide +kernel
theorem dX12_init_156 : decode cX12_init 156 = .ok (.newarray .int, 2) := by decide +kernel
theorem dX12_init_158 : decode cX12_init 158 = .ok (.putfield 64, 3) := by decide +kernel
theorem dX12_init_161 : decode cX12_init 161 = .ok (.aload_n 0, 1) := by decide +kernel
theorem dX12_init_162 : decode cX12_init 162 = .ok (.ldc 67, 2) := by decide +kernel
theorem dX12_init_164 : decode cX12_init 164 = .ok (.newarray .int, 2) := by decide +kernel
theorem dX12_init_166 : decode cX12_init 166 = .ok (.putfield 68, 3) := by decide +kernel
theorem dX12_init_169 : decode cX12_init 169 = .ok (.aload_n 0, 1) := by decide +kernel
theorem dX12_init_170 : decode cX12_init 170 = .ok (.ldc 67, 2) := by decide +kernel
theorem dX12_init_172 : decode cX12_init 172 = .ok (.newarray .int, 2) := by decide +kernel
theorem dX12_init_174 : decode cX12_init 174 = .ok (.putfield 71, 3) := by decide +kernel
theorem dX12_init_177 : decode cX12_init 177 = .ok (.aload_n 0, 1) := by decide +kernel
theorem dX12_init_178 : decode cX12_init 178 = .ok (.ldc 67, 2) := by decide +kernel
theorem dX12_init_180 : decode cX12_init 180 = .ok (.newarray .int, 2) := by decide +kernel
theorem dX12_init_182 : decode cX12_init 182 = .ok (.putfield 74, 3) := by decide +kernel
theorem dX12_init_185 : decode cX12_init 185 = .ok (.aload_n 0, 1) := by decide +kernel
theorem dX12_init_186 : decode cX12_init 186 = .ok (.sipush 13184, 3) := by decide +kernel
theorem dX12_init_189 : decode cX12_init 189 = .ok (.newarray .int, 2) := by decide +kernel
theorem dX12_init_191 : decode cX12_init 191 = .ok (.putfield 77, 3) := by decide +kernel
theorem dX12_init_194 : decode cX12_init 194 = .ok (.aload_n 0, 1) := by decide +kernel
theorem dX12_init_195 : decode cX12_init 195 = .ok (.sipush 13184, 3) := by decide +kernel
theorem dX12_init_198 : decode cX12_init 198 = .ok (.newarray .int, 2) := by decide +kernel
theorem dX12_init_200 : decode cX12_init 200 = .ok (.putfield 80, 3) := by decide +kernel
theorem dX12_init_203 : decode cX12_init 203 = .ok (.aload_n 0, 1) := by decide +kernel
theorem dX12_init_204 : decode cX12_init 204 = .ok (.sipush 200, 3) := by decide +kernel
theorem dX12_init_207 : decode cX12_init 207 = .ok (.newarray .int, 2) := by decide +kernel
theorem dX12_init_209 : decode cX12_init 209 = .ok (.putfield 83, 3) := by decide +kernel
theorem dX12_init_212 : decode cX12_init 212 = .ok (.aload_n 0, 1) := by decide +kernel
theorem dX12_init_213 : decode cX12_init 213 = .ok (.sipush 200, 3) := by decide +kernel
theorem dX12_init_216 : decode cX12_init 216 = .ok (.newarray .int, 2) := by decide +kernel
theorem dX12_init_218 : decode cX12_init 218 = .ok (.putfield 86, 3) := by decide +kernel
theorem dX12_init_221 : decode cX12_init 221 = .ok (.aload_n 0, 1) := by decide +kernel
theorem dX12_init_222 : decode cX12_init 222 = .ok (.sipush 1400, 3) := by decide +kernel
theorem dX12_init_225 : decode cX12_init 225 = .ok (.newarray .int, 2) := by decide +kernel
theorem dX12_init_227 : decode cX12_init 227 = .ok (.putfield 89, 3) := by decide +kernel
theorem dX12_init_230 : decode cX12_init 230 = .ok (.aload_n 0, 1) := by decide +kernel
theorem dX12_init_231 : decode cX12_init 231 = .ok (.sipush 200, 3) := by decide +kernel
theorem dX12_init_234 : decode cX12_init 234 = .ok (.newarray .int, 2) := by decide +kernel
theorem dX12_init_236 : decode cX12_init 236 = .ok (.putfield 92, 3) := by decide +kernel
theorem dX12_init_239 : decode cX12_init 239 = .ok (.aload_n 0, 1) := by decide +kernel
theorem dX12_init_240 : decode cX12_init 240 = .ok (.sipush 200, 3) := by decide +kernel
theorem dX12_init_243 : decode cX12_init 243 = .ok (.newarray .int, 2) := by decide +kernel
theorem dX12_init_245 : decode cX12_init 245 = .ok (.putfield 95, 3) := by decide +kernel
theorem dX12_init_248 : decode cX12_init 248 = .ok (.aload_n 0, 1) := by decide +kernel
theorem dX12_init_249 : decode cX12_init 249 = .ok (.sipush 400, 3) := by decide +kernel
theorem dX12_init_252 : decode cX12_init 252 = .ok (.newarray .int, 2) := by decide +kernel
theorem dX12_init_254 : decode cX12_init 254 = .ok (.putfield 98, 3) := by decide +kernel
theorem dX12_init_257 : decode cX12_init 257 = .ok (.aload_n 0, 1) := by decide +kernel
theorem dX12_init_258 : decode cX12_init 258 = .ok (.sipush 200, 3) := by decide +kernel
theorem dX12_init_261 : decode cX12_init 261 = .ok (.newarray .int, 2) := by decide +kernel
theorem dX12_init_263 : decode cX12_init 263 = .ok (.putfield 101, 3) := by decide +kernel
theorem dX12_init_266 : decode cX12_init 266 = .ok (.aload_n 0, 1) := by decide +kernel
theorem dX12_init_267 : decode cX12_init 267 = .ok (.bipush 64, 2) := by decide +kernel
theorem dX12_init_269 : decode cX12_init 269 = .ok (.newarray .int, 2) := by decide +kernel
theorem dX12_init_271 : decode cX12_init 271 = .ok (.putfield 104, 3) := by decide +kernel
theorem dX12_init_274 : decode cX12_init 274 = .ok (.aload_n 0, 1) := by decide +kernel
theorem dX12_init_275 : decode cX12_init 275 = .ok (.bipush 64, 2) := by decide +kernel
theorem dX12_init_277 : decode cX12_init 277 = .ok (.newarray .int, 2) := by decide +kernel
theorem dX12_init_279 : decode cX12_init 279 = .ok (.putfield 107, 3) := by decide +kernel
theorem dX12_init_282 : decode cX12_init 282 = .ok (.aload_n 0, 1) := by decide +kernel
theorem dX12_init_283 : decode cX12_init 283 = .ok (.sipush 13184, 3) := by decide +kernel
theorem dX12_init_286 : decode cX12_init 286 = .ok (.newarray .int, 2) := by decide +kernel
theorem dX12_init_288 : decode cX12_init 288 = .ok (.putfield 110, 3) := by decide +kernel
theorem dX12_init_291 : decode cX12_init 291 = .ok (.aload_n 0, 1) := by decide +kernel
theorem dX12_init_292 : decode cX12_init 292 = .ok (.sipush 13184, 3) := by decide +kernel
theorem dX12_init_295 : decode cX12_init 295 = .ok (.newarray .int, 2) := by decide +kernel
theorem dX12_init_297 : decode cX12_init 297 = .ok (.putfield 113, 3) := by decide +kernel
theorem dX12_init_300 : decode cX12_init 300 = .ok (.aload_n 0, 1) := by decide +kernel
theorem dX12_init_301 : decode cX12_init 301 = .ok (.sipush 200, 3) := by decide +kernel
theorem dX12_init_304 : decode cX12_init 304 = .ok (.newarray .int, 2) := by decide +kernel
theorem dX12_init_306 : decode cX12_init 306 = .ok (.putfield 116, 3) := by decide +kernel
theorem dX12_init_309 : decode cX12_init 309 = .ok (.aload_n 0, 1) := by decide +kernel
theorem dX12_init_310 : decode cX12_init 310 = .ok (.sipush 2048, 3) := by decide +kernel
theorem dX12_init_313 : decode cX12_init 313 = .ok (.newarray .long, 2) := by decide +kernel
theorem dX12_init_315 : decode cX12_init 315 = .ok (.putfield 119, 3) := by decide +kernel
theorem dX12_init_318 : decode cX12_init 318 = .ok (.aload_n 0, 1) := by decide +kernel
theorem dX12_init_319 : decode cX12_init 319 = .ok (.bipush 64, 2) := by decide +kernel
theorem dX12_init_321 : decode cX12_init 321 = .ok (.newarray .long, 2) := by decide +kernel
theorem dX12_init_323 : decode cX12_init 323 = .ok (.putfield 123, 3) := by decide +kernel
theorem dX12_init_326 : decode cX12_init 326 = .ok (.aload_n 0, 1) := by decide +kernel
theorem dX12_init_327 : decode cX12_init 327 = .ok (.bipush 64, 2) := by decide +kernel
theorem dX12_init_329 : decode cX12_init 329 = .ok (.newarray .long, 2) := by decide +kernel
theorem dX12_init_331 : decode cX12_init 331 = .ok (.putfield 126, 3) := by decide +kernel
theorem dX12_init_334 : decode cX12_init 334 = .ok (.iconst 0, 1) := by decide +kernel
theorem dX12_init_335 : decode cX12_init 335 = .ok (.istore_n 1, 1) := by decide +kernel
theorem dX12_init_336 : decode cX12_init 336 = .ok (.iload_n 1, 1) := by decide +kernel
theorem dX12_init_337 : decode cX12_init 337 = .ok (.bipush 16, 2) := by decide +kernel
theorem dX12_init_339 : decode cX12_init 339 = .ok (.if_icmp .ge 16, 3) := by decide +kernel
theorem dX12_init_342 : decode cX12_init 342 = .ok (.aload_n 0, 1) := by decide +kernel
theorem dX12_init_343 : decode cX12_init 343 = .ok (.getfield 7, 3) := by decide +kernel
theorem dX12_init_346 : decode cX12_init 346 = .ok (.iload_n 1, 1) := by decide +kernel
theorem dX12_init_347 : decode cX12_init 347 = .ok (.iconst (-1), 1) := by decide +kernel
theorem dX12_init_348 : decode cX12_init 348 = .ok (.iastore, 1) := by decide +kernel
theorem dX12_init_349 : decode cX12_init 349 = .ok (.iinc 1 1, 3) := by decide +kernel
theorem dX12_init_352 : decode cX12_init 352 = .ok (.goto (-16), 3) := by decide +kernel
theorem dX12_init_355 : decode cX12_init 355 = .ok (.bipush (-32), 2) := by decide +kernel
theorem dX12_init_357 : decode cX12_init 357 = .ok (.istore_n 1, 1) := by decide +kernel
theorem dX12_init_358 : decode cX12_init 358 = .ok (.iload_n 1, 1) := by decide +kernel
theorem dX12_init_359 : decode cX12_init 359 = .ok (.bipush 32, 2) := by decide +kernel
theorem dX12_init_361 : decode cX12_init 361 = .ok (.if_icmp .ge 46, 3) := by decide +kernel
theorem dX12_init_364 : decode cX12_init 364 = .ok (.aload_n 0, 1) := by decide +kernel
theorem dX12_init_365 : decode cX12_init 365 = .ok (.getfield 16, 3) := by decide +kernel
theorem dX12_init_368 : decode cX12_init 368 = .ok (.iload_n 1, 1) := by decide +kernel
theorem dX12_init_369 : decode cX12_init 369 = .ok (.bipush 32, 2) := by decide +kernel
theorem dX12_init_371 : decode cX12_init 371 = .ok (.iadd, 1) := by decide +kernel
theorem dX12_init_372 : decode cX12_init 372 = .ok (.iload_n 1, 1) := by decide +kernel
theorem dX12_init_373 : decode cX12_init 373 = .ok (.ifCond .ge 8, 3) := by decide +kernel
theorem dX12_init_376 : decode cX12_init 376 = .ok (.iload_n 1, 1) := by decide +kernel
theorem dX12_init_377 : decode cX12_init 377 = .ok (.ineg, 1) := by decide +kernel
theorem dX12_init_378 : decode cX12_init 378 = .ok (.goto 4, 3) := by decide +kernel
theorem dX12_init_381 : decode cX12_init 381 = .ok (.iconst 0, 1) := by decide +kernel
theorem dX12_init_382 : decode cX12_init 382 = .ok (.iastore, 1) := by decide +kernel
theorem dX12_init_383 : decode cX12_init 383 = .ok (.aload_n 0, 1) := by decide +kernel
theorem dX12_init_384 : decode cX12_init 384 = .ok (.getfield 19, 3) := by decide +kernel
theorem dX12_init_387 : decode cX12_init 387 = .ok (.iload_n 1, 1) := by decide +kernel
theorem dX12_init_388 : decode cX12_init 388 = .ok (.bipush 32, 2) := by decide +kernel
theorem dX12_init_390 : decode cX12_init 390 = .ok (.iadd, 1) := by decide +kernel
theorem dX12_init_391 : decode cX12_init 391 = .ok (.iload_n 1, 1) := by decide +kernel
theorem dX12_init_392 : decode cX12_init 392 = .ok (.ifCond .ge 7, 3) := by decide +kernel
theorem dX12_init_395 : decode cX12_init 395 = .ok (.iconst 0, 1) := by decide +kernel
theorem dX12_init_396 : decode cX12_init 396 = .ok (.goto 4, 3) := by decide +kernel
theorem dX12_init_399 : decode cX12_init 399 = .ok (.iload_n 1, 1) := by decide +kernel
theorem dX12_init_400 : decode cX12_init 400 = .ok (.iastore, 1) := by decide +kernel
theorem dX12_init_401 : decode cX12_init 401 = .ok (.iinc 1 1, 3) := by decide +kernel
theorem dX12_init_404 : decode cX12_init 404 = .ok (.goto (-46), 3) := by decide +kernel
theorem dX12_init_407 : decode cX12_init 407 = .ok (.return_, 1) := by decide +kernel
theorem dX12_thrown_0 : decode cX12_thrown 0 = .ok (.aload_n 0, 1) := by decide +kernel
theorem dX12_thrown_1 : decode cX12_thrown 1 = .ok (.getfield 129, 3) := by decide +kernel
theorem dX12_thrown_4 : decode cX12_thrown 4 = .ok (.ireturn, 1) := by decide +kernel
theorem dX12_right_0 : decode cX12_right 0 = .ok (.aload_n 0, 1) := by decide +kernel
theorem dX12_right_1 : decode cX12_right 1 = .ok (.getfield 129, 3) := by decide +kernel
theorem dX12_right_4 : decode cX12_right 4 = .ok (.ifCond .ne 12, 3) := by decide +kernel
theorem dX12_right_7 : decode cX12_right 7 = .ok (.iload_n 1, 1) := by decide +kernel
theorem dX12_right_8 : decode cX12_right 8 = .ok (.ifCond .ne 8, 3) := by decide +kernel
theorem dX12_right_11 : decode cX12_right 11 = .ok (.aload_n 0, 1) := by decide +kernel
theorem dX12_right_12 : decode cX12_right 12 = .ok (.iload_n 2, 1) := by decide +kernel
theorem dX12_right_13 : decode cX12_right 13 = .ok (.putfield 129, 3) := by decide +kernel
theorem dX12_right_16 : decode cX12_right 16 = .ok (.aload_n 0, 1) := by decide +kernel
theorem dX12_right_17 : decode cX12_right 17 = .ok (.getfield 129, 3) := by decide +kernel
theorem dX12_right_20 : decode cX12_right 20 = .ok (.ifCond .ne 7, 3) := by decide +kernel
theorem dX12_right_23 : decode cX12_right 23 = .ok (.iconst 1, 1) := by decide +kernel
theorem dX12_right_24 : decode cX12_right 24 = .ok (.goto 4, 3) := by decide +kernel
theorem dX12_right_27 : decode cX12_right 27 = .ok (.iconst 0, 1) := by decide +kernel
theorem dX12_right_28 : decode cX12_right 28 = .ok (.ireturn, 1) := by decide +kernel
theorem dX12_isRow_0 : decode cX12_isRow 0 = .ok (.aload_n 0, 1) := by decide +kernel
theorem dX12_isRow_1 : decode cX12_isRow 1 = .ok (.iload_n 1, 1) := by decide +kernel
theorem dX12_isRow_2 : decode cX12_isRow 2 = .ok (.ifCond .lt 13, 3) := by decide +kernel
theorem dX12_isRow_5 : decode cX12_isRow 5 = .ok (.iload_n 1, 1) := by decide +kernel
theorem dX12_isRow_6 : decode cX12_isRow 6 = .ok (.bipush 16, 2) := by decide +kernel
theorem dX12_isRow_8 : decode cX12_isRow 8 = .ok (.if_icmp .ge 7, 3) := by decide +kernel
theorem dX12_isRow_11 : decode cX12_isRow 11 = .ok (.iconst 1, 1) := by decide +kernel
theorem dX12_isRow_12 : decode cX12_isRow 12 = .ok (.goto 4, 3) := by decide +kernel
theorem dX12_isRow_15 : decode cX12_isRow 15 = .ok (.iconst 0, 1) := by decide +kernel
theorem dX12_isRow_16 : decode cX12_isRow 16 = .ok (.iload_n 2, 1) := by decide +kernel
theorem dX12_isRow_17 : decode cX12_isRow 17 = .ok (.invokevirtual 133, 3) := by decide +kernel
theorem dX12_isRow_20 : decode cX12_isRow 20 = .ok (.ireturn, 1) := by decide +kernel
theorem dX12_row_0 : decode cX12_row 0 = .ok (.aload_n 0, 1) := by decide +kernel
theorem dX12_row_1 : decode cX12_row 1 = .ok (.iconst 0, 1) := by decide +kernel
theorem dX12_row_2 : decode cX12_row 2 = .ok (.putfield 129, 3) := by decide +kernel
theorem dX12_row_5 : decode cX12_row 5 = .ok (.aload_n 0, 1) := by decide +kernel
theorem dX12_row_6 : decode cX12_row 6 = .ok (.iload_n 1, 1) := by decide +kernel
theorem dX12_row_7 : decode cX12_row 7 = .ok (.iconst 1, 1) := by decide +kernel
theorem dX12_row_8 : decode cX12_row 8 = .ok (.invokevirtual 137, 3) := by decide +kernel
theorem dX12_row_11 : decode cX12_row 11 = .ok (.ifCond .eq 27, 3) := by decide +kernel
theorem dX12_row_14 : decode cX12_row 14 = .ok (.aload_n 0, 1) := by decide +kernel
theorem dX12_row_15 : decode cX12_row 15 = .ok (.iload_n 2, 1) := by decide +kernel
theorem dX12_row_16 : decode cX12_row 16 = .ok (.ifCond .lt 14, 3) := by decide +kernel
theorem dX12_row_19 : decode cX12_row 19 = .ok (.iload_n 2, 1) := by decide +kernel
theorem dX12_row_20 : decode cX12_row 20 = .ok (.sipush 600, 3) := by decide +kernel
theorem dX12_row_23 : decode cX12_row 23 = .ok (.if_icmp .gt 7, 3) := by decide +kernel
theorem dX12_row_26 : decode cX12_row 26 = .ok (.iconst 1, 1) := by decide +kernel
theorem dX12_row_27 : decode cX12_row 27 = .ok (.goto 4, 3) := by decide +kernel
theorem dX12_row_30 : decode cX12_row 30 = .ok (.iconst 0, 1) := by decide +kernel
theorem dX12_row_31 : decode cX12_row 31 = .ok (.iconst 2, 1) := by decide +kernel
theorem dX12_row_32 : decode cX12_row 32 = .ok (.invokevirtual 133, 3) := by decide +kernel
theorem dX12_row_35 : decode cX12_row 35 = .ok (.ifCond .ne 5, 3) := by decide +kernel
theorem dX12_row_38 : decode cX12_row 38 = .ok (.iconst 0, 1) := by decide +kernel
theorem dX12_row_39 : decode cX12_row 39 = .ok (.ireturn, 1) := by decide +kernel
theorem dX12_row_40 : decode cX12_row 40 = .ok (.aload_n 0, 1) := by decide +kernel
theorem dX12_row_41 : decode cX12_row 41 = .ok (.getfield 7, 3) := by decide +kernel
theorem dX12_row_44 : decode cX12_row 44 = .ok (.iload_n 1, 1) := by decide +kernel
theorem dX12_row_45 : decode cX12_row 45 = .ok (.iaload, 1) := by decide +kernel
theorem dX12_row_46 : decode cX12_row 46 = .ok (.iconst (-1), 1) := by decide +kernel
theorem dX12_row_47 : decode cX12_row 47 = .ok (.if_icmp .ne 7, 3) := by decide +kernel
theorem dX12_row_50 : decode cX12_row 50 = .ok (.iconst 1, 1) := by decide +kernel
theorem dX12_row_51 : decode cX12_row 51 = .ok (.goto 4, 3) := by decide +kernel
theorem dX12_row_54 : decode cX12_row 54 = .ok (.iconst 0, 1) := by decide +kernel
theorem dX12_row_55 : decode cX12_row 55 = .ok (.istore_n 3, 1) := by decide +kernel
theorem dX12_row_56 : decode cX12_row 56 = .ok (.aload_n 0, 1) := by decide +kernel
theorem dX12_row_57 : decode cX12_row 57 = .ok (.getfield 7, 3) := by decide +kernel
theorem dX12_row_60 : decode cX12_row 60 = .ok (.iload_n 1, 1) := by decide +kernel
theorem dX12_row_61 : decode cX12_row 61 = .ok (.iload_n 2, 1) := by decide +kernel
theorem dX12_row_62 : decode cX12_row 62 = .ok (.iastore, 1) := by decide +kernel
theorem dX12_row_63 : decode cX12_row 63 = .ok (.iconst 0, 1) := by decide +kernel
theorem dX12_row_64 : decode cX12_row 64 = .ok (.istore 4, 2) := by decide +kernel
theorem dX12_row_66 : decode cX12_row 66 = .ok (.iload 4, 2) := by decide +kernel
theorem dX12_row_68 : decode cX12_row 68 = .ok (.sipush 600, 3) := by decide +kernel
theorem dX12_row_71 : decode cX12_row 71 = .ok (.if_icmp .ge 23, 3) := by decide +kernel
theorem dX12_row_74 : decode cX12_row 74 = .ok (.aload_n 0, 1) := by decide +kernel
theorem dX12_row_75 : decode cX12_row 75 = .ok (.getfield 13, 3) := by decide +kernel
theorem dX12_row_78 : decode cX12_row 78 = .ok (.sipush 600, 3) := by decide +kernel
theorem dX12_row_81 : decode cX12_row 81 = .ok (.iload_n 1, 1) := by decide +kernel
theorem dX12_row_82 : decode cX12_row 82 = .ok (.imul, 1) := by decide +kernel
theorem dX12_row_83 : decode cX12_row 83 = .ok (.iload 4, 2) := by decide +kernel
theorem dX12_row_85 : decode cX12_row 85 = .ok (.iadd, 1) := by decide +kernel
theorem dX12_row_86 : decode cX12_row 86 = .ok (.iconst 0, 1) := by decide +kernel
theorem dX12_row_87 : decode cX12_row 87 = .ok (.iastore, 1) := by decide +kernel
theorem dX12_row_88 : decode cX12_row 88 = .ok (.iinc 4 1, 3) := by decide +kernel
theorem dX12_row_91 : decode cX12_row 91 = .ok (.goto (-25), 3) := by decide +kernel
theorem dX12_row_94 : decode cX12_row 94 = .ok (.iload_n 3, 1) := by decide +kernel
theorem dX12_row_95 : decode cX12_row 95 = .ok (.ireturn, 1) := by decide +kernel
theorem dX12_isMark_0 : decode cX12_isMark 0 = .ok (.iload_n 0, 1) := by decide +kernel
theorem dX12_isMark_1 : decode cX12_isMark 1 = .ok (.bipush (-32), 2) := by decide +kernel
theorem dX12_isMark_3 : decode cX12_isMark 3 = .ok (.if_icmp .lt 13, 3) := by decide +kernel
theorem dX12_isMark_6 : decode cX12_isMark 6 = .ok (.iload_n 0, 1) := by decide +kernel
theorem dX12_isMark_7 : decode cX12_isMark 7 = .ok (.bipush 31, 2) := by decide +kernel
theorem dX12_isMark_9 : decode cX12_isMark 9 = .ok (.if_icmp .gt 7, 3) := by decide +kernel
theorem dX12_isMark_12 : decode cX12_isMark 12 = .ok (.iconst 1, 1) := by decide +kernel
theorem dX12_isMark_13 : decode cX12_isMark 13 = .ok (.goto 4, 3) := by decide +kernel
theorem dX12_isMark_16 : decode cX12_isMark 16 = .ok (.iconst 0, 1) := by decide +kernel
theorem dX12_isMark_17 : decode cX12_isMark 17 = .ok (.ireturn, 1) := by decide +kernel
theorem dX12_put_0 : decode cX12_put 0 = .ok (.aload_n 0, 1) := by decide +kernel
theorem dX12_put_1 : decode cX12_put 1 = .ok (.iconst 0, 1) := by decide +kernel
theorem dX12_put_2 : decode cX12_put 2 = .ok (.putfield 129, 3) := by decide +kernel
theorem dX12_put_5 : decode cX12_put 5 = .ok (.aload_n 0, 1) := by decide +kernel
theorem dX12_put_6 : decode cX12_put 6 = .ok (.iload_n 3, 1) := by decide +kernel
theorem dX12_put_7 : decode cX12_put 7 = .ok (.invokestatic 141, 3) := by decide +kernel
theorem dX12_put_10 : decode cX12_put 10 = .ok (.iconst 1, 1) := by decide +kernel
theorem dX12_put_11 : decode cX12_put 11 = .ok (.invokevirtual 133, 3) := by decide +kernel
theorem dX12_put_14 : decode cX12_put 14 = .ok (.ifCond .eq 62, 3) := by decide +kernel
theorem dX12_put_17 : decode cX12_put 17 = .ok (.aload_n 0, 1) := by decide +kernel
theorem dX12_put_18 : decode cX12_put 18 = .ok (.iload_n 1, 1) := by decide +kernel
theorem dX12_put_19 : decode cX12_put 19 = .ok (.iconst 2, 1) := by decide +kernel
theorem dX12_put_20 : decode cX12_put 20 = .ok (.invokevirtual 137, 3) := by decide +kernel
theorem dX12_put_23 : decode cX12_put 23 = .ok (.ifCond .eq 53, 3) := by decide +kernel
theorem dX12_put_26 : decode cX12_put 26 = .ok (.aload_n 0, 1) := by decide +kernel
theorem dX12_put_27 : decode cX12_put 27 = .ok (.aload_n 0, 1) := by decide +kernel
theorem dX12_put_28 : decode cX12_put 28 = .ok (.getfield 7, 3) := by decide +kernel
theorem dX12_put_31 : decode cX12_put 31 = .ok (.iload_n 1, 1) := by decide +kernel
theorem dX12_put_32 : decode cX12_put 32 = .ok (.iaload, 1) := by decide +kernel
theorem dX12_put_33 : decode cX12_put 33 = .ok (.iconst (-1), 1) := by decide +kernel
theorem dX12_put_34 : decode cX12_put 34 = .ok (.if_icmp .eq 7, 3) := by decide +kernel
theorem dX12_put_37 : decode cX12_put 37 = .ok (.iconst 1, 1) := by decide +kernel
theorem dX12_put_38 : decode cX12_put 38 = .ok (.goto 4, 3) := by decide +kernel
theorem dX12_put_41 : decode cX12_put 41 = .ok (.iconst 0, 1) := by decide +kernel
theorem dX12_put_42 : decode cX12_put 42 = .ok (.iconst 3, 1) := by decide +kernel
theorem dX12_put_43 : decode cX12_put 43 = .ok (.invokevirtual 133, 3) := by decide +kernel
theorem dX12_put_46 : decode cX12_put 46 = .ok (.ifCond .eq 30, 3) := by decide +kernel
theorem dX12_put_49 : decode cX12_put 49 = .ok (.aload_n 0, 1) := by decide +kernel
theorem dX12_put_50 : decode cX12_put 50 = .ok (.iload_n 2, 1) := by decide +kernel
theorem dX12_put_51 : decode cX12_put 51 = .ok (.ifCond .lt 17, 3) := by decide +kernel
theorem dX12_put_54 : decode cX12_put 54 = .ok (.iload_n 2, 1) := by decide +kernel
theorem dX12_put_55 : decode cX12_put 55 = .ok (.aload_n 0, 1) := by decide +kernel
theorem dX12_put_56 : decode cX12_put 56 = .ok (.getfield 7, 3) := by decide +kernel
theorem dX12_put_59 : decode cX12_put 59 = .ok (.iload_n 1, 1) := by decide +kernel
theorem dX12_put_60 : decode cX12_put 60 = .ok (.iaload, 1) := by decide +kernel
theorem dX12_put_61 : decode cX12_put 61 = .ok (.if_icmp .ge 7, 3) := by decide +kernel
theorem dX12_put_64 : decode cX12_put 64 = .ok (.iconst 1, 1) := by decide +kernel
theorem dX12_put_65 : decode cX12_put 65 = .ok (.goto 4, 3) := by decide +kernel
theorem dX12_put_68 : decode cX12_put 68 = .ok (.iconst 0, 1) := by decide +kernel
theorem dX12_put_69 : decode cX12_put 69 = .ok (.iconst 2, 1) := by decide +kernel
theorem dX12_put_70 : decode cX12_put 70 = .ok (.invokevirtual 133, 3) := by decide +kernel
theorem dX12_put_73 : decode cX12_put 73 = .ok (.ifCond .ne 5, 3) := by decide +kernel
theorem dX12_put_76 : decode cX12_put 76 = .ok (.iconst 0, 1) := by decide +kernel
theorem dX12_put_77 : decode cX12_put 77 = .ok (.ireturn, 1) := by decide +kernel
theorem dX12_put_78 : decode cX12_put 78 = .ok (.aload_n 0, 1) := by decide +kernel
theorem dX12_put_79 : decode cX12_put 79 = .ok (.getfield 13, 3) := by decide +kernel
theorem dX12_put_82 : decode cX12_put 82 = .ok (.sipush 600, 3) := by decide +kernel
theorem dX12_put_85 : decode cX12_put 85 = .ok (.iload_n 1, 1) := by decide +kernel
theorem dX12_put_86 : decode cX12_put 86 = .ok (.imul, 1) := by decide +kernel
theorem dX12_put_87 : decode cX12_put 87 = .ok (.iload_n 2, 1) := by decide +kernel
theorem dX12_put_88 : decode cX12_put 88 = .ok (.iadd, 1) := by decide +kernel
theorem dX12_put_89 : decode cX12_put 89 = .ok (.iaload, 1) := by decide +kernel
theorem dX12_put_90 : decode cX12_put 90 = .ok (.istore 4, 2) := by decide +kernel
theorem dX12_put_92 : decode cX12_put 92 = .ok (.aload_n 0, 1) := by decide +kernel
theorem dX12_put_93 : decode cX12_put 93 = .ok (.getfield 13, 3) := by decide +kernel
theorem dX12_put_96 : decode cX12_put 96 = .ok (.sipush 600, 3) := by decide +kernel
theorem dX12_put_99 : decode cX12_put 99 = .ok (.iload_n 1, 1) := by decide +kernel
theorem dX12_put_100 : decode cX12_put 100 = .ok (.imul, 1) := by decide +kernel
theorem dX12_put_101 : decode cX12_put 101 = .ok (.iload_n 2, 1) := by decide +kernel
theorem dX12_put_102 : decode cX12_put 102 = .ok (.iadd, 1) := by decide +kernel
theorem dX12_put_103 : decode cX12_put 103 = .ok (.iload_n 3, 1) := by decide +kernel
theorem dX12_put_104 : decode cX12_put 104 = .ok (.iastore, 1) := by decide +kernel
theorem dX12_put_105 : decode cX12_put 105 = .ok (.iload 4, 2) := by decide +kernel
theorem dX12_put_107 : decode cX12_put 107 = .ok (.ireturn, 1) := by decide +kernel
theorem dX12_five_0 : decode cX12_five 0 = .ok (.aload_n 0, 1) := by decide +kernel
theorem dX12_five_1 : decode cX12_five 1 = .ok (.iconst 0, 1) := by decide +kernel
theorem dX12_five_2 : decode cX12_five 2 = .ok (.putfield 129, 3) := by decide +kernel
theorem dX12_five_5 : decode cX12_five 5 = .ok (.aload_n 0, 1) := by decide +kernel
theorem dX12_five_6 : decode cX12_five 6 = .ok (.iload_n 1, 1) := by decide +kernel
theorem dX12_five_7 : decode cX12_five 7 = .ok (.iconst 1, 1) := by decide +kernel
theorem dX12_five_8 : decode cX12_five 8 = .ok (.invokevirtual 137, 3) := by decide +kernel
theorem dX12_five_11 : decode cX12_five 11 = .ok (.ifCond .eq 26, 3) := by decide +kernel
theorem dX12_five_14 : decode cX12_five 14 = .ok (.aload_n 0, 1) := by decide +kernel
theorem dX12_five_15 : decode cX12_five 15 = .ok (.aload_n 0, 1) := by decide +kernel
theorem dX12_five_16 : decode cX12_five 16 = .ok (.getfield 7, 3) := by decide +kernel
theorem dX12_five_19 : decode cX12_five 19 = .ok (.iload_n 1, 1) := by decide +kernel
theorem dX12_five_20 : decode cX12_five 20 = .ok (.iaload, 1) := by decide +kernel
theorem dX12_five_21 : decode cX12_five 21 = .ok (.iconst (-1), 1) := by decide +kernel
theorem dX12_five_22 : decode cX12_five 22 = .ok (.if_icmp .eq 7, 3) := by decide +kernel
theorem dX12_five_25 : decode cX12_five 25 = .ok (.iconst 1, 1) := by decide +kernel
theorem dX12_five_26 : decode cX12_five 26 = .ok (.goto 4, 3) := by decide +kernel
theorem dX12_five_29 : decode cX12_five 29 = .ok (.iconst 0, 1) := by decide +kernel
theorem dX12_five_30 : decode cX12_five 30 = .ok (.iconst 2, 1) := by decide +kernel
theorem dX12_five_31 : decode cX12_five 31 = .ok (.invokevirtual 133, 3) := by decide +kernel
theorem dX12_five_34 : decode cX12_five 34 = .ok (.ifCond .ne 5, 3) := by decide +kernel
theorem dX12_five_37 : decode cX12_five 37 = .ok (.iconst 0, 1) := by decide +kernel
theorem dX12_five_38 : decode cX12_five 38 = .ok (.ireturn, 1) := by decide +kernel
theorem dX12_five_39 : decode cX12_five 39 = .ok (.iconst 0, 1) := by decide +kernel
theorem dX12_five_40 : decode cX12_five 40 = .ok (.istore 5, 2) := by decide +kernel
theorem dX12_five_42 : decode cX12_five 42 = .ok (.iconst 0, 1) := by decide +kernel
theorem dX12_five_43 : decode cX12_five 43 = .ok (.istore 6, 2) := by decide +kernel
theorem dX12_five_45 : decode cX12_five 45 = .ok (.iload 6, 2) := by decide +kernel
theorem dX12_five_47 : decode cX12_five 47 = .ok (.iconst 5, 1) := by decide +kernel
theorem dX12_five_48 : decode cX12_five 48 = .ok (.if_icmp .ge 107, 3) := by decide +kernel
theorem dX12_five_51 : decode cX12_five 51 = .ok (.iload_n 2, 1) := by decide +kernel
theorem dX12_five_52 : decode cX12_five 52 = .ok (.i2l, 1) := by decide +kernel
theorem dX12_five_53 : decode cX12_five 53 = .ok (.iload 6, 2) := by decide +kernel
theorem dX12_five_55 : decode cX12_five 55 = .ok (.i2l, 1) := by decide +kernel
theorem dX12_five_56 : decode cX12_five 56 = .ok (.ladd, 1) := by decide +kernel
theorem dX12_five_57 : decode cX12_five 57 = .ok (.lstore 7, 2) := by decide +kernel
theorem dX12_five_59 : decode cX12_five 59 = .ok (.lload 7, 2) := by decide +kernel
theorem dX12_five_61 : decode cX12_five 61 = .ok (.lconst 0, 1) := by decide +kernel
theorem dX12_five_62 : decode cX12_five 62 = .ok (.lcmp, 1) := by decide +kernel
theorem dX12_five_63 : decode cX12_five 63 = .ok (.ifCond .lt 86, 3) := by decide +kernel
theorem dX12_five_66 : decode cX12_five 66 = .ok (.lload 7, 2) := by decide +kernel
theorem dX12_five_68 : decode cX12_five 68 = .ok (.aload_n 0, 1) := by decide +kernel
theorem dX12_five_69 : decode cX12_five 69 = .ok (.getfield 7, 3) := by decide +kernel
theorem dX12_five_72 : decode cX12_five 72 = .ok (.iload_n 1, 1) := by decide +kernel
theorem dX12_five_73 : decode cX12_five 73 = .ok (.iaload, 1) := by decide +kernel
theorem dX12_five_74 : decode cX12_five 74 = .ok (.i2l, 1) := by decide +kernel
theorem dX12_five_75 : decode cX12_five 75 = .ok (.lcmp, 1) := by decide +kernel
theorem dX12_five_76 : decode cX12_five 76 = .ok (.ifCond .lt 6, 3) := by decide +kernel
theorem dX12_five_79 : decode cX12_five 79 = .ok (.goto 70, 3) := by decide +kernel
theorem dX12_five_82 : decode cX12_five 82 = .ok (.iload 6, 2) := by decide +kernel
theorem dX12_five_84 : decode cX12_five 84 = .ok (.iconst 4, 1) := by decide +kernel
theorem dX12_five_85 : decode cX12_five 85 = .ok (.if_icmp .ne 8, 3) := by decide +kernel
theorem dX12_five_88 : decode cX12_five 88 = .ok (.iload 4, 2) := by decide +kernel
theorem dX12_five_90 : decode cX12_five 90 = .ok (.goto 13, 3) := by decide +kernel
theorem dX12_five_93 : decode cX12_five 93 = .ok (.iload_n 3, 1) := by decide +kernel
theorem dX12_five_94 : decode cX12_five 94 = .ok (.bipush 24, 2) := by decide +kernel
theorem dX12_five_96 : decode cX12_five 96 = .ok (.bipush 8, 2) := by decide +kernel
theorem dX12_five_98 : decode cX12_five 98 = .ok (.iload 6, 2) := by decide +kernel
theorem dX12_five_100 : decode cX12_five 100 = .ok (.imul, 1) := by decide +kernel
theorem dX12_five_101 : decode cX12_five 101 = .ok (.isub, 1) := by decide +kernel
theorem dX12_five_102 : decode cX12_five 102 = .ok (.ishr, 1) := by decide +kernel
theorem dX12_five_103 : decode cX12_five 103 = .ok (.i2b, 1) := by decide +kernel
theorem dX12_five_104 : decode cX12_five 104 = .ok (.istore 9, 2) := by decide +kernel
theorem dX12_five_106 : decode cX12_five 106 = .ok (.aload_n 0, 1) := by decide +kernel
theorem dX12_five_107 : decode cX12_five 107 = .ok (.getfield 13, 3) := by decide +kernel
theorem dX12_five_110 : decode cX12_five 110 = .ok (.sipush 600, 3) := by decide +kernel
theorem dX12_five_113 : decode cX12_five 113 = .ok (.iload_n 1, 1) := by decide +kernel
theorem dX12_five_114 : decode cX12_five 114 = .ok (.imul, 1) := by decide +kernel
theorem dX12_five_115 : decode cX12_five 115 = .ok (.lload 7, 2) := by decide +kernel
theorem dX12_five_117 : decode cX12_five 117 = .ok (.l2i, 1) := by decide +kernel
theorem dX12_five_118 : decode cX12_five 118 = .ok (.iadd, 1) := by decide +kernel
theorem dX12_five_119 : decode cX12_five 119 = .ok (.iload 9, 2) := by decide +kernel
theorem dX12_five_121 : decode cX12_five 121 = .ok (.bipush (-32), 2) := by decide +kernel
theorem dX12_five_123 : decode cX12_five 123 = .ok (.if_icmp .ge 8, 3) := by decide +kernel
theorem dX12_five_126 : decode cX12_five 126 = .ok (.bipush (-32), 2) := by decide +kernel
theorem dX12_five_128 : decode cX12_five 128 = .ok (.goto 17, 3) := by decide +kernel
theorem dX12_five_131 : decode cX12_five 131 = .ok (.iload 9, 2) := by decide +kernel
theorem dX12_five_133 : decode cX12_five 133 = .ok (.bipush 31, 2) := by decide +kernel
theorem dX12_five_135 : decode cX12_five 135 = .ok (.if_icmp .le 8, 3) := by decide +kernel
theorem dX12_five_138 : decode cX12_five 138 = .ok (.bipush 31, 2) := by decide +kernel
theorem dX12_five_140 : decode cX12_five 140 = .ok (.goto 5, 3) := by decide +kernel
theorem dX12_five_143 : decode cX12_five 143 = .ok (.iload 9, 2) := by decide +kernel
theorem dX12_five_145 : decode cX12_five 145 = .ok (.iastore, 1) := by decide +kernel
theorem dX12_five_146 : decode cX12_five 146 = .ok (.iinc 5 1, 3) := by decide +kernel
theorem dX12_five_149 : decode cX12_five 149 = .ok (.iinc 6 1, 3) := by decide +kernel
theorem dX12_five_152 : decode cX12_five 152 = .ok (.goto (-107), 3) := by decide +kernel
theorem dX12_five_155 : decode cX12_five 155 = .ok (.iload 5, 2) := by decide +kernel
theorem dX12_five_157 : decode cX12_five 157 = .ok (.ireturn, 1) := by decide +kernel
theorem dX12_at_0 : decode cX12_at 0 = .ok (.aload_n 0, 1) := by decide +kernel
theorem dX12_at_1 : decode cX12_at 1 = .ok (.iconst 0, 1) := by decide +kernel
theorem dX12_at_2 : decode cX12_at 2 = .ok (.putfield 129, 3) := by decide +kernel
theorem dX12_at_5 : decode cX12_at 5 = .ok (.aload_n 0, 1) := by decide +kernel
theorem dX12_at_6 : decode cX12_at 6 = .ok (.iload_n 1, 1) := by decide +kernel
theorem dX12_at_7 : decode cX12_at 7 = .ok (.iconst 1, 1) := by decide +kernel
theorem dX12_at_8 : decode cX12_at 8 = .ok (.invokevirtual 137, 3) := by decide +kernel
theorem dX12_at_11 : decode cX12_at 11 = .ok (.ifCond .eq 53, 3) := by decide +kernel
theorem dX12_at_14 : decode cX12_at 14 = .ok (.aload_n 0, 1) := by decide +kernel
theorem dX12_at_15 : decode cX12_at 15 = .ok (.aload_n 0, 1) := by decide +kernel
theorem dX12_at_16 : decode cX12_at 16 = .ok (.getfield 7, 3) := by decide +kernel
theorem dX12_at_19 : decode cX12_at 19 = .ok (.iload_n 1, 1) := by decide +kernel
theorem dX12_at_20 : decode cX12_at 20 = .ok (.iaload, 1) := by decide +kernel
theorem dX12_at_21 : decode cX12_at 21 = .ok (.iconst (-1), 1) := by decide +kernel
theorem dX12_at_22 : decode cX12_at 22 = .ok (.if_icmp .eq 7, 3) := by decide +kernel
theorem dX12_at_25 : decode cX12_at 25 = .ok (.iconst 1, 1) := by decide +kernel
theorem dX12_at_26 : decode cX12_at 26 = .ok (.goto 4, 3) := by decide +kernel
theorem dX12_at_29 : decode cX12_at 29 = .ok (.iconst 0, 1) := by decide +kernel
theorem dX12_at_30 : decode cX12_at 30 = .ok (.iconst 2, 1) := by decide +kernel
theorem dX12_at_31 : decode cX12_at 31 = .ok (.invokevirtual 133, 3) := by decide +kernel
theorem dX12_at_34 : decode cX12_at 34 = .ok (.ifCond .eq 30, 3) := by decide +kernel
theorem dX12_at_37 : decode cX12_at 37 = .ok (.aload_n 0, 1) := by decide +kernel
theorem dX12_at_38 : decode cX12_at 38 = .ok (.iload_n 2, 1) := by decide +kernel
theorem dX12_at_39 : decode cX12_at 39 = .ok (.ifCond .lt 17, 3) := by decide +kernel
theorem dX12_at_42 : decode cX12_at 42 = .ok (.iload_n 2, 1) := by decide +kernel
theorem dX12_at_43 : decode cX12_at 43 = .ok (.aload_n 0, 1) := by decide +kernel
theorem dX12_at_44 : decode cX12_at 44 = .ok (.getfield 7, 3) := by decide +kernel
theorem dX12_at_47 : decode cX12_at 47 = .ok (.iload_n 1, 1) := by decide +kernel
theorem dX12_at_48 : decode cX12_at 48 = .ok (.iaload, 1) := by decide +kernel
theorem dX12_at_49 : decode cX12_at 49 = .ok (.if_icmp .ge 7, 3) := by decide +kernel
theorem dX12_at_52 : decode cX12_at 52 = .ok (.iconst 1, 1) := by decide +kernel
theorem dX12_at_53 : decode cX12_at 53 = .ok (.goto 4, 3) := by decide +kernel
theorem dX12_at_56 : decode cX12_at 56 = .ok (.iconst 0, 1) := by decide +kernel
theorem dX12_at_57 : decode cX12_at 57 = .ok (.iconst 1, 1) := by decide +kernel
theorem dX12_at_58 : decode cX12_at 58 = .ok (.invokevirtual 133, 3) := by decide +kernel
theorem dX12_at_61 : decode cX12_at 61 = .ok (.ifCond .ne 5, 3) := by decide +kernel
theorem dX12_at_64 : decode cX12_at 64 = .ok (.iconst 0, 1) := by decide +kernel
theorem dX12_at_65 : decode cX12_at 65 = .ok (.ireturn, 1) := by decide +kernel
theorem dX12_at_66 : decode cX12_at 66 = .ok (.aload_n 0, 1) := by decide +kernel
theorem dX12_at_67 : decode cX12_at 67 = .ok (.getfield 13, 3) := by decide +kernel
theorem dX12_at_70 : decode cX12_at 70 = .ok (.sipush 600, 3) := by decide +kernel
theorem dX12_at_73 : decode cX12_at 73 = .ok (.iload_n 1, 1) := by decide +kernel
theorem dX12_at_74 : decode cX12_at 74 = .ok (.imul, 1) := by decide +kernel
theorem dX12_at_75 : decode cX12_at 75 = .ok (.iload_n 2, 1) := by decide +kernel
theorem dX12_at_76 : decode cX12_at 76 = .ok (.iadd, 1) := by decide +kernel
theorem dX12_at_77 : decode cX12_at 77 = .ok (.iaload, 1) := by decide +kernel
theorem dX12_at_78 : decode cX12_at 78 = .ok (.ireturn, 1) := by decide +kernel
theorem dX12_tear_0 : decode cX12_tear 0 = .ok (.aload_n 0, 1) := by decide +kernel
theorem dX12_tear_1 : decode cX12_tear 1 = .ok (.iconst 0, 1) := by decide +kernel
theorem dX12_tear_2 : decode cX12_tear 2 = .ok (.putfield 129, 3) := by decide +kernel
theorem dX12_tear_5 : decode cX12_tear 5 = .ok (.aload_n 0, 1) := by decide +kernel
theorem dX12_tear_6 : decode cX12_tear 6 = .ok (.iload_n 1, 1) := by decide +kernel
theorem dX12_tear_7 : decode cX12_tear 7 = .ok (.iconst 1, 1) := by decide +kernel
theorem dX12_tear_8 : decode cX12_tear 8 = .ok (.invokevirtual 137, 3) := by decide +kernel
theorem dX12_tear_11 : decode cX12_tear 11 = .ok (.ifCond .eq 26, 3) := by decide +kernel
theorem dX12_tear_14 : decode cX12_tear 14 = .ok (.aload_n 0, 1) := by decide +kernel
theorem dX12_tear_15 : decode cX12_tear 15 = .ok (.aload_n 0, 1) := by decide +kernel
theorem dX12_tear_16 : decode cX12_tear 16 = .ok (.getfield 7, 3) := by decide +kernel
theorem dX12_tear_19 : decode cX12_tear 19 = .ok (.iload_n 1, 1) := by decide +kernel
theorem dX12_tear_20 : decode cX12_tear 20 = .ok (.iaload, 1) := by decide +kernel
theorem dX12_tear_21 : decode cX12_tear 21 = .ok (.iconst (-1), 1) := by decide +kernel
theorem dX12_tear_22 : decode cX12_tear 22 = .ok (.if_icmp .eq 7, 3) := by decide +kernel
theorem dX12_tear_25 : decode cX12_tear 25 = .ok (.iconst 1, 1) := by decide +kernel
theorem dX12_tear_26 : decode cX12_tear 26 = .ok (.goto 4, 3) := by decide +kernel
theorem dX12_tear_29 : decode cX12_tear 29 = .ok (.iconst 0, 1) := by decide +kernel
theorem dX12_tear_30 : decode cX12_tear 30 = .ok (.iconst 2, 1) := by decide +kernel
theorem dX12_tear_31 : decode cX12_tear 31 = .ok (.invokevirtual 133, 3) := by decide +kernel
theorem dX12_tear_34 : decode cX12_tear 34 = .ok (.ifCond .ne 5, 3) := by decide +kernel
theorem dX12_tear_37 : decode cX12_tear 37 = .ok (.iconst 0, 1) := by decide +kernel
theorem dX12_tear_38 : decode cX12_tear 38 = .ok (.ireturn, 1) := by decide +kernel
theorem dX12_tear_39 : decode cX12_tear 39 = .ok (.aload_n 0, 1) := by decide +kernel
theorem dX12_tear_40 : decode cX12_tear 40 = .ok (.getfield 7, 3) := by decide +kernel
theorem dX12_tear_43 : decode cX12_tear 43 = .ok (.iload_n 1, 1) := by decide +kernel
theorem dX12_tear_44 : decode cX12_tear 44 = .ok (.iaload, 1) := by decide +kernel
theorem dX12_tear_45 : decode cX12_tear 45 = .ok (.istore_n 3, 1) := by decide +kernel
theorem dX12_tear_46 : decode cX12_tear 46 = .ok (.aload_n 0, 1) := by decide +kernel
theorem dX12_tear_47 : decode cX12_tear 47 = .ok (.getfield 7, 3) := by decide +kernel
theorem dX12_tear_50 : decode cX12_tear 50 = .ok (.iload_n 1, 1) := by decide +kernel
theorem dX12_tear_51 : decode cX12_tear 51 = .ok (.iload_n 2, 1) := by decide +kernel
theorem dX12_tear_52 : decode cX12_tear 52 = .ok (.ifCond .ge 7, 3) := by decide +kernel
theorem dX12_tear_55 : decode cX12_tear 55 = .ok (.iconst (-1), 1) := by decide +kernel
theorem dX12_tear_56 : decode cX12_tear 56 = .ok (.goto 13, 3) := by decide +kernel
theorem dX12_tear_59 : decode cX12_tear 59 = .ok (.iload_n 2, 1) := by decide +kernel
theorem dX12_tear_60 : decode cX12_tear 60 = .ok (.iload_n 3, 1) := by decide +kernel
theorem dX12_tear_61 : decode cX12_tear 61 = .ok (.if_icmp .ge 7, 3) := by decide +kernel
theorem dX12_tear_64 : decode cX12_tear 64 = .ok (.iload_n 2, 1) := by decide +kernel
theorem dX12_tear_65 : decode cX12_tear 65 = .ok (.goto 4, 3) := by decide +kernel
theorem dX12_tear_68 : decode cX12_tear 68 = .ok (.iload_n 3, 1) := by decide +kernel
theorem dX12_tear_69 : decode cX12_tear 69 = .ok (.iastore, 1) := by decide +kernel
theorem dX12_tear_70 : decode cX12_tear 70 = .ok (.iload_n 3, 1) := by decide +kernel
theorem dX12_tear_71 : decode cX12_tear 71 = .ok (.ireturn, 1) := by decide +kernel
theorem dX12_noise_0 : decode cX12_noise 0 = .ok (.aload_n 0, 1) := by decide +kernel
theorem dX12_noise_1 : decode cX12_noise 1 = .ok (.iconst 0, 1) := by decide +kernel
theorem dX12_noise_2 : decode cX12_noise 2 = .ok (.putfield 129, 3) := by decide +kernel
theorem dX12_noise_5 : decode cX12_noise 5 = .ok (.aload_n 0, 1) := by decide +kernel
theorem dX12_noise_6 : decode cX12_noise 6 = .ok (.iload_n 1, 1) := by decide +kernel
theorem dX12_noise_7 : decode cX12_noise 7 = .ok (.invokestatic 141, 3) := by decide +kernel
theorem dX12_noise_10 : decode cX12_noise 10 = .ok (.ifCond .eq 29, 3) := by decide +kernel
theorem dX12_noise_13 : decode cX12_noise 13 = .ok (.iload_n 2, 1) := by decide +kernel
theorem dX12_noise_14 : decode cX12_noise 14 = .ok (.ifCond .lt 25, 3) := by decide +kernel
theorem dX12_noise_17 : decode cX12_noise 17 = .ok (.iload_n 2, 1) := by decide +kernel
theorem dX12_noise_18 : decode cX12_noise 18 = .ok (.sipush 1000, 3) := by decide +kernel
theorem dX12_noise_21 : decode cX12_noise 21 = .ok (.if_icmp .gt 18, 3) := by decide +kernel
theorem dX12_noise_24 : decode cX12_noise 24 = .ok (.iload_n 3, 1) := by decide +kernel
theorem dX12_noise_25 : decode cX12_noise 25 = .ok (.ifCond .lt 14, 3) := by decide +kernel
theorem dX12_noise_28 : decode cX12_noise 28 = .ok (.iload_n 3, 1) := by decide +kernel
theorem dX12_noise_29 : decode cX12_noise 29 = .ok (.sipush 1000, 3) := by decide +kernel
theorem dX12_noise_32 : decode cX12_noise 32 = .ok (.if_icmp .gt 7, 3) := by decide +kernel
theorem dX12_noise_35 : decode cX12_noise 35 = .ok (.iconst 1, 1) := by decide +kernel
theorem dX12_noise_36 : decode cX12_noise 36 = .ok (.goto 4, 3) := by decide +kernel
theorem dX12_noise_39 : decode cX12_noise 39 = .ok (.iconst 0, 1) := by decide +kernel
theorem dX12_noise_40 : decode cX12_noise 40 = .ok (.iconst 1, 1) := by decide +kernel
theorem dX12_noise_41 : decode cX12_noise 41 = .ok (.invokevirtual 133, 3) := by decide +kernel
theorem dX12_noise_44 : decode cX12_noise 44 = .ok (.ifCond .ne 5, 3) := by decide +kernel
theorem dX12_noise_47 : decode cX12_noise 47 = .ok (.iconst 0, 1) := by decide +kernel
theorem dX12_noise_48 : decode cX12_noise 48 = .ok (.ireturn, 1) := by decide +kernel
theorem dX12_noise_49 : decode cX12_noise 49 = .ok (.aload_n 0, 1) := by decide +kernel
theorem dX12_noise_50 : decode cX12_noise 50 = .ok (.getfield 16, 3) := by decide +kernel
theorem dX12_noise_53 : decode cX12_noise 53 = .ok (.iload_n 1, 1) := by decide +kernel
theorem dX12_noise_54 : decode cX12_noise 54 = .ok (.bipush 32, 2) := by decide +kernel
theorem dX12_noise_56 : decode cX12_noise 56 = .ok (.iadd, 1) := by decide +kernel
theorem dX12_noise_57 : decode cX12_noise 57 = .ok (.iaload, 1) := by decide +kernel
theorem dX12_noise_58 : decode cX12_noise 58 = .ok (.aload_n 0, 1) := by decide +kernel
theorem dX12_noise_59 : decode cX12_noise 59 = .ok (.getfield 19, 3) := by decide +kernel
theorem dX12_noise_62 : decode cX12_noise 62 = .ok (.iload_n 1, 1) := by decide +kernel
theorem dX12_noise_63 : decode cX12_noise 63 = .ok (.bipush 32, 2) := by decide +kernel
theorem dX12_noise_65 : decode cX12_noise 65 = .ok (.iadd, 1) := by decide +kernel
theorem dX12_noise_66 : decode cX12_noise 66 = .ok (.iaload, 1) := by decide +kernel
theorem dX12_noise_67 : decode cX12_noise 67 = .ok (.iadd, 1) := by decide +kernel
theorem dX12_noise_68 : decode cX12_noise 68 = .ok (.istore 4, 2) := by decide +kernel
theorem dX12_noise_70 : decode cX12_noise 70 = .ok (.aload_n 0, 1) := by decide +kernel
theorem dX12_noise_71 : decode cX12_noise 71 = .ok (.getfield 16, 3) := by decide +kernel
theorem dX12_noise_74 : decode cX12_noise 74 = .ok (.iload_n 1, 1) := by decide +kernel
theorem dX12_noise_75 : decode cX12_noise 75 = .ok (.bipush 32, 2) := by decide +kernel
theorem dX12_noise_77 : decode cX12_noise 77 = .ok (.iadd, 1) := by decide +kernel
theorem dX12_noise_78 : decode cX12_noise 78 = .ok (.iload_n 2, 1) := by decide +kernel
theorem dX12_noise_79 : decode cX12_noise 79 = .ok (.iastore, 1) := by decide +kernel
theorem dX12_noise_80 : decode cX12_noise 80 = .ok (.aload_n 0, 1) := by decide +kernel
theorem dX12_noise_81 : decode cX12_noise 81 = .ok (.getfield 19, 3) := by decide +kernel
theorem dX12_noise_84 : decode cX12_noise 84 = .ok (.iload_n 1, 1) := by decide +kernel
theorem dX12_noise_85 : decode cX12_noise 85 = .ok (.bipush 32, 2) := by decide +kernel
theorem dX12_noise_87 : decode cX12_noise 87 = .ok (.iadd, 1) := by decide +kernel
theorem dX12_noise_88 : decode cX12_noise 88 = .ok (.iload_n 3, 1) := by decide +kernel
theorem dX12_noise_89 : decode cX12_noise 89 = .ok (.iastore, 1) := by decide +kernel
theorem dX12_noise_90 : decode cX12_noise 90 = .ok (.iload 4, 2) := by decide +kernel
theorem dX12_noise_92 : decode cX12_noise 92 = .ok (.ireturn, 1) := by decide +kernel
theorem dX12_markCost_0 : decode cX12_markCost 0 = .ok (.iload_n 2, 1) := by decide +kernel
theorem dX12_markCost_1 : decode cX12_markCost 1 = .ok (.aload_n 0, 1) := by decide +kernel
theorem dX12_markCost_2 : decode cX12_markCost 2 = .ok (.getfield 7, 3) := by decide +kernel
theorem dX12_markCost_5 : decode cX12_markCost 5 = .ok (.iload_n 1, 1) := by decide +kernel
theorem dX12_markCost_6 : decode cX12_markCost 6 = .ok (.iaload, 1) := by decide +kernel
theorem dX12_markCost_7 : decode cX12_markCost 7 = .ok (.if_icmp .lt 5, 3) := by decide +kernel
theorem dX12_markCost_10 : decode cX12_markCost 10 = .ok (.iconst 0, 1) := by decide +kernel
theorem dX12_markCost_11 : decode cX12_markCost 11 = .ok (.ireturn, 1) := by decide +kernel
theorem dX12_markCost_12 : decode cX12_markCost 12 = .ok (.aload_n 0, 1) := by decide +kernel
theorem dX12_markCost_13 : decode cX12_markCost 13 = .ok (.getfield 13, 3) := by decide +kernel
theorem dX12_markCost_16 : decode cX12_markCost 16 = .ok (.sipush 600, 3) := by decide +kernel
theorem dX12_markCost_19 : decode cX12_markCost 19 = .ok (.iload_n 1, 1) := by decide +kernel
theorem dX12_markCost_20 : decode cX12_markCost 20 = .ok (.imul, 1) := by decide +kernel
theorem dX12_markCost_21 : decode cX12_markCost 21 = .ok (.iload_n 2, 1) := by decide +kernel
theorem dX12_markCost_22 : decode cX12_markCost 22 = .ok (.iadd, 1) := by decide +kernel
theorem dX12_markCost_23 : decode cX12_markCost 23 = .ok (.iaload, 1) := by decide +kernel
theorem dX12_markCost_24 : decode cX12_markCost 24 = .ok (.bipush 32, 2) := by decide +kernel
theorem dX12_markCost_26 : decode cX12_markCost 26 = .ok (.iadd, 1) := by decide +kernel
theorem dX12_markCost_27 : decode cX12_markCost 27 = .ok (.istore 4, 2) := by decide +kernel
theorem dX12_markCost_29 : decode cX12_markCost 29 = .ok (.iload_n 3, 1) := by decide +kernel
theorem dX12_markCost_30 : decode cX12_markCost 30 = .ok (.iconst 1, 1) := by decide +kernel
theorem dX12_markCost_31 : decode cX12_markCost 31 = .ok (.if_icmp .ne 13, 3) := by decide +kernel
theorem dX12_markCost_34 : decode cX12_markCost 34 = .ok (.aload_n 0, 1) := by decide +kernel
theorem dX12_markCost_35 : decode cX12_markCost 35 = .ok (.getfield 19, 3) := by decide +kernel
theorem dX12_markCost_38 : decode cX12_markCost 38 = .ok (.iload 4, 2) := by decide +kernel
theorem dX12_markCost_40 : decode cX12_markCost 40 = .ok (.iaload, 1) := by decide +kernel
theorem dX12_markCost_41 : decode cX12_markCost 41 = .ok (.goto 10, 3) := by decide +kernel
theorem dX12_markCost_44 : decode cX12_markCost 44 = .ok (.aload_n 0, 1) := by decide +kernel
theorem dX12_markCost_45 : decode cX12_markCost 45 = .ok (.getfield 16, 3) := by decide +kernel
theorem dX12_markCost_48 : decode cX12_markCost 48 = .ok (.iload 4, 2) := by decide +kernel
theorem dX12_markCost_50 : decode cX12_markCost 50 = .ok (.iaload, 1) := by decide +kernel
theorem dX12_markCost_51 : decode cX12_markCost 51 = .ok (.ireturn, 1) := by decide +kernel
theorem dX12_code_0 : decode cX12_code 0 = .ok (.aload_n 0, 1) := by decide +kernel
theorem dX12_code_1 : decode cX12_code 1 = .ok (.iconst 0, 1) := by decide +kernel
theorem dX12_code_2 : decode cX12_code 2 = .ok (.putfield 129, 3) := by decide +kernel
theorem dX12_code_5 : decode cX12_code 5 = .ok (.aload_n 0, 1) := by decide +kernel
theorem dX12_code_6 : decode cX12_code 6 = .ok (.iload_n 1, 1) := by decide +kernel
theorem dX12_code_7 : decode cX12_code 7 = .ok (.ifCond .lt 33, 3) := by decide +kernel
theorem dX12_code_10 : decode cX12_code 10 = .ok (.iload_n 1, 1) := by decide +kernel
theorem dX12_code_11 : decode cX12_code 11 = .ok (.iconst 5, 1) := by decide +kernel
theorem dX12_code_12 : decode cX12_code 12 = .ok (.if_icmp .gt 28, 3) := by decide +kernel
theorem dX12_code_15 : decode cX12_code 15 = .ok (.iload_n 2, 1) := by decide +kernel
theorem dX12_code_16 : decode cX12_code 16 = .ok (.iconst 1, 1) := by decide +kernel
theorem dX12_code_17 : decode cX12_code 17 = .ok (.if_icmp .lt 23, 3) := by decide +kernel
theorem dX12_code_20 : decode cX12_code 20 = .ok (.iload_n 2, 1) := by decide +kernel
theorem dX12_code_21 : decode cX12_code 21 = .ok (.bipush 6, 2) := by decide +kernel
theorem dX12_code_23 : decode cX12_code 23 = .ok (.if_icmp .gt 17, 3) := by decide +kernel
theorem dX12_code_26 : decode cX12_code 26 = .ok (.iload_n 3, 1) := by decide +kernel
theorem dX12_code_27 : decode cX12_code 27 = .ok (.iconst 2, 1) := by decide +kernel
theorem dX12_code_28 : decode cX12_code 28 = .ok (.if_icmp .lt 12, 3) := by decide +kernel
theorem dX12_code_31 : decode cX12_code 31 = .ok (.iload_n 3, 1) := by decide +kernel
theorem dX12_code_32 : decode cX12_code 32 = .ok (.iconst 4, 1) := by decide +kernel
theorem dX12_code_33 : decode cX12_code 33 = .ok (.if_icmp .gt 7, 3) := by decide +kernel
theorem dX12_code_36 : decode cX12_code 36 = .ok (.iconst 1, 1) := by decide +kernel
theorem dX12_code_37 : decode cX12_code 37 = .ok (.goto 4, 3) := by decide +kernel
theorem dX12_code_40 : decode cX12_code 40 = .ok (.iconst 0, 1) := by decide +kernel
theorem dX12_code_41 : decode cX12_code 41 = .ok (.iconst 1, 1) := by decide +kernel
theorem dX12_code_42 : decode cX12_code 42 = .ok (.invokevirtual 133, 3) := by decide +kernel
theorem dX12_code_45 : decode cX12_code 45 = .ok (.ifCond .ne 5, 3) := by decide +kernel
theorem dX12_code_48 : decode cX12_code 48 = .ok (.iconst 0, 1) := by decide +kernel
theorem dX12_code_49 : decode cX12_code 49 = .ok (.ireturn, 1) := by decide +kernel
theorem dX12_code_50 : decode cX12_code 50 = .ok (.aload_n 0, 1) := by decide +kernel
theorem dX12_code_51 : decode cX12_code 51 = .ok (.getfield 145, 3) := by decide +kernel
theorem dX12_code_54 : decode cX12_code 54 = .ok (.bipush 12, 2) := by decide +kernel
theorem dX12_code_56 : decode cX12_code 56 = .ok (.if_icmp .ne 5, 3) := by decide +kernel
theorem dX12_code_59 : decode cX12_code 59 = .ok (.iconst (-1), 1) := by decide +kernel
theorem dX12_code_60 : decode cX12_code 60 = .ok (.ireturn, 1) := by decide +kernel
theorem dX12_code_61 : decode cX12_code 61 = .ok (.aload_n 0, 1) := by decide +kernel
theorem dX12_code_62 : decode cX12_code 62 = .ok (.getfield 145, 3) := by decide +kernel
theorem dX12_code_65 : decode cX12_code 65 = .ok (.istore 4, 2) := by decide +kernel
theorem dX12_code_67 : decode cX12_code 67 = .ok (.aload_n 0, 1) := by decide +kernel
theorem dX12_code_68 : decode cX12_code 68 = .ok (.getfield 22, 3) := by decide +kernel
theorem dX12_code_71 : decode cX12_code 71 = .ok (.iload 4, 2) := by decide +kernel
theorem dX12_code_73 : decode cX12_code 73 = .ok (.iload_n 1, 1) := by decide +kernel
theorem dX12_code_74 : decode cX12_code 74 = .ok (.iastore, 1) := by decide +kernel
theorem dX12_code_75 : decode cX12_code 75 = .ok (.aload_n 0, 1) := by decide +kernel
theorem dX12_code_76 : decode cX12_code 76 = .ok (.getfield 25, 3) := by decide +kernel
theorem dX12_code_79 : decode cX12_code 79 = .ok (.iload 4, 2) := by decide +kernel
theorem dX12_code_81 : decode cX12_code 81 = .ok (.iload_n 2, 1) := by decide +kernel
theorem dX12_code_82 : decode cX12_code 82 = .ok (.iastore, 1) := by decide +kernel
theorem dX12_code_83 : decode cX12_code 83 = .ok (.aload_n 0, 1) := by decide +kernel
theorem dX12_code_84 : decode cX12_code 84 = .ok (.getfield 28, 3) := by decide +kernel
theorem dX12_code_87 : decode cX12_code 87 = .ok (.iload 4, 2) := by decide +kernel
theorem dX12_code_89 : decode cX12_code 89 = .ok (.iload_n 3, 1) := by decide +kernel
theorem dX12_code_90 : decode cX12_code 90 = .ok (.iastore, 1) := by decide +kernel
theorem dX12_code_91 : decode cX12_code 91 = .ok (.aload_n 0, 1) := by decide +kernel
theorem dX12_code_92 : decode cX12_code 92 = .ok (.getfield 31, 3) := by decide +kernel
theorem dX12_code_95 : decode cX12_code 95 = .ok (.iload 4, 2) := by decide +kernel
theorem dX12_code_97 : decode cX12_code 97 = .ok (.iconst 0, 1) := by decide +kernel
theorem dX12_code_98 : decode cX12_code 98 = .ok (.iastore, 1) := by decide +kernel
theorem dX12_code_99 : decode cX12_code 99 = .ok (.aload_n 0, 1) := by decide +kernel
theorem dX12_code_100 : decode cX12_code 100 = .ok (.getfield 34, 3) := by decide +kernel
theorem dX12_code_103 : decode cX12_code 103 = .ok (.iload 4, 2) := by decide +kernel
theorem dX12_code_105 : decode cX12_code 105 = .ok (.iconst 1, 1) := by decide +kernel
theorem dX12_code_106 : decode cX12_code 106 = .ok (.iastore, 1) := by decide +kernel
theorem dX12_code_107 : decode cX12_code 107 = .ok (.aload_n 0, 1) := by decide +kernel
theorem dX12_code_108 : decode cX12_code 108 = .ok (.getfield 37, 3) := by decide +kernel
theorem dX12_code_111 : decode cX12_code 111 = .ok (.iload 4, 2) := by decide +kernel
theorem dX12_code_113 : decode cX12_code 113 = .ok (.iconst 1, 1) := by decide +kernel
theorem dX12_code_114 : decode cX12_code 114 = .ok (.iastore, 1) := by decide +kernel
theorem dX12_code_115 : decode cX12_code 115 = .ok (.iconst 0, 1) := by decide +kernel
theorem dX12_code_116 : decode cX12_code 116 = .ok (.istore 5, 2) := by decide +kernel
theorem dX12_code_118 : decode cX12_code 118 = .ok (.iload 5, 2) := by decide +kernel
theorem dX12_code_120 : decode cX12_code 120 = .ok (.iconst 4, 1) := by decide +kernel
theorem dX12_code_121 : decode cX12_code 121 = .ok (.if_icmp .ge 22, 3) := by decide +kernel
theorem dX12_code_124 : decode cX12_code 124 = .ok (.aload_n 0, 1) := by decide +kernel
theorem dX12_code_125 : decode cX12_code 125 = .ok (.getfield 40, 3) := by decide +kernel
theorem dX12_code_128 : decode cX12_code 128 = .ok (.iconst 4, 1) := by decide +kernel
theorem dX12_code_129 : decode cX12_code 129 = .ok (.iload 4, 2) := by decide +kernel
theorem dX12_code_131 : decode cX12_code 131 = .ok (.imul, 1) := by decide +kernel
theorem dX12_code_132 : decode cX12_code 132 = .ok (.iload 5, 2) := by decide +kernel
theorem dX12_code_134 : decode cX12_code 134 = .ok (.iadd, 1) := by decide +kernel
theorem dX12_code_135 : decode cX12_code 135 = .ok (.iconst 1, 1) := by decide +kernel
theorem dX12_code_136 : decode cX12_code 136 = .ok (.iastore, 1) := by decide +kernel
theorem dX12_code_137 : decode cX12_code 137 = .ok (.iinc 5 1, 3) := by decide +kernel
theorem dX12_code_140 : decode cX12_code 140 = .ok (.goto (-22), 3) := by decide +kernel
theorem dX12_code_143 : decode cX12_code 143 = .ok (.iconst 0, 1) := by decide +kernel
theorem dX12_code_144 : decode cX12_code 144 = .ok (.istore 5, 2) := by decide +kernel
theorem dX12_code_146 : decode cX12_code 146 = .ok (.iload 5, 2) := by decide +kernel
theorem dX12_code_148 : decode cX12_code 148 = .ok (.bipush 8, 2) := by decide +kernel
theorem dX12_code_150 : decode cX12_code 150 = .ok (.if_icmp .ge 23, 3) := by decide +kernel
theorem dX12_code_153 : decode cX12_code 153 = .ok (.aload_n 0, 1) := by decide +kernel
theorem dX12_code_154 : decode cX12_code 154 = .ok (.getfield 43, 3) := by decide +kernel
theorem dX12_code_157 : decode cX12_code 157 = .ok (.bipush 8, 2) := by decide +kernel
theorem dX12_code_159 : decode cX12_code 159 = .ok (.iload 4, 2) := by decide +kernel
theorem dX12_code_161 : decode cX12_code 161 = .ok (.imul, 1) := by decide +kernel
theorem dX12_code_162 : decode cX12_code 162 = .ok (.iload 5, 2) := by decide +kernel
theorem dX12_code_164 : decode cX12_code 164 = .ok (.iadd, 1) := by decide +kernel
theorem dX12_code_165 : decode cX12_code 165 = .ok (.iconst 0, 1) := by decide +kernel
theorem dX12_code_166 : decode cX12_code 166 = .ok (.iastore, 1) := by decide +kernel
theorem dX12_code_167 : decode cX12_code 167 = .ok (.iinc 5 1, 3) := by decide +kernel
theorem dX12_code_170 : decode cX12_code 170 = .ok (.goto (-24), 3) := by decide +kernel
theorem dX12_code_173 : decode cX12_code 173 = .ok (.aload_n 0, 1) := by decide +kernel
theorem dX12_code_174 : decode cX12_code 174 = .ok (.getfield 43, 3) := by decide +kernel
theorem dX12_code_177 : decode cX12_code 177 = .ok (.bipush 8, 2) := by decide +kernel
theorem dX12_code_179 : decode cX12_code 179 = .ok (.iload 4, 2) := by decide +kernel
theorem dX12_code_181 : decode cX12_code 181 = .ok (.imul, 1) := by decide +kernel
theorem dX12_code_182 : decode cX12_code 182 = .ok (.iconst 1, 1) := by decide +kernel
theorem dX12_code_183 : decode cX12_code 183 = .ok (.aload_n 0, 1) := by decide +kernel
theorem dX12_code_184 : decode cX12_code 184 = .ok (.iload 4, 2) := by decide +kernel
theorem dX12_code_186 : decode cX12_code 186 = .ok (.invokevirtual 148, 3) := by decide +kernel
theorem dX12_code_189 : decode cX12_code 189 = .ok (.ishl, 1) := by decide +kernel
theorem dX12_code_190 : decode cX12_code 190 = .ok (.iconst 1, 1) := by decide +kernel
theorem dX12_code_191 : decode cX12_code 191 = .ok (.isub, 1) := by decide +kernel
theorem dX12_code_192 : decode cX12_code 192 = .ok (.iastore, 1) := by decide +kernel
theorem dX12_code_193 : decode cX12_code 193 = .ok (.aload_n 0, 1) := by decide +kernel
theorem dX12_code_194 : decode cX12_code 194 = .ok (.dup, 1) := by decide +kernel
theorem dX12_code_195 : decode cX12_code 195 = .ok (.getfield 145, 3) := by decide +kernel
theorem dX12_code_198 : decode cX12_code 198 = .ok (.iconst 1, 1) := by decide +kernel
theorem dX12_code_199 : decode cX12_code 199 = .ok (.iadd, 1) := by decide +kernel
theorem dX12_code_200 : decode cX12_code 200 = .ok (.putfield 145, 3) := by decide +kernel
theorem dX12_code_203 : decode cX12_code 203 = .ok (.iload 4, 2) := by decide +kernel
theorem dX12_code_205 : decode cX12_code 205 = .ok (.ireturn, 1) := by decide +kernel
theorem dX12_wide_0 : decode cX12_wide 0 = .ok (.aload_n 0, 1) := by decide +kernel
theorem dX12_wide_1 : decode cX12_wide 1 = .ok (.getfield 22, 3) := by decide +kernel
theorem dX12_wide_4 : decode cX12_wide 4 = .ok (.iload_n 1, 1) := by decide +kernel
theorem dX12_wide_5 : decode cX12_wide 5 = .ok (.iaload, 1) := by decide +kernel
theorem dX12_wide_6 : decode cX12_wide 6 = .ok (.iconst 5, 1) := by decide +kernel
theorem dX12_wide_7 : decode cX12_wide 7 = .ok (.if_icmp .ne 16, 3) := by decide +kernel
theorem dX12_wide_10 : decode cX12_wide 10 = .ok (.iconst 2, 1) := by decide +kernel
theorem dX12_wide_11 : decode cX12_wide 11 = .ok (.aload_n 0, 1) := by decide +kernel
theorem dX12_wide_12 : decode cX12_wide 12 = .ok (.getfield 28, 3) := by decide +kernel
theorem dX12_wide_15 : decode cX12_wide 15 = .ok (.iload_n 1, 1) := by decide +kernel
theorem dX12_wide_16 : decode cX12_wide 16 = .ok (.iaload, 1) := by decide +kernel
theorem dX12_wide_17 : decode cX12_wide 17 = .ok (.imul, 1) := by decide +kernel
theorem dX12_wide_18 : decode cX12_wide 18 = .ok (.iconst 1, 1) := by decide +kernel
theorem dX12_wide_19 : decode cX12_wide 19 = .ok (.isub, 1) := by decide +kernel
theorem dX12_wide_20 : decode cX12_wide 20 = .ok (.goto 9, 3) := by decide +kernel
theorem dX12_wide_23 : decode cX12_wide 23 = .ok (.aload_n 0, 1) := by decide +kernel
theorem dX12_wide_24 : decode cX12_wide 24 = .ok (.getfield 28, 3) := by decide +kernel
theorem dX12_wide_27 : decode cX12_wide 27 = .ok (.iload_n 1, 1) := by decide +kernel
theorem dX12_wide_28 : decode cX12_wide 28 = .ok (.iaload, 1) := by decide +kernel
theorem dX12_wide_29 : decode cX12_wide 29 = .ok (.ireturn, 1) := by decide +kernel
theorem dX12_isCode_0 : decode cX12_isCode 0 = .ok (.aload_n 0, 1) := by decide +kernel
theorem dX12_isCode_1 : decode cX12_isCode 1 = .ok (.iconst 0, 1) := by decide +kernel
theorem dX12_isCode_2 : decode cX12_isCode 2 = .ok (.putfield 129, 3) := by decide +kernel
theorem dX12_isCode_5 : decode cX12_isCode 5 = .ok (.aload_n 0, 1) := by decide +kernel
theorem dX12_isCode_6 : decode cX12_isCode 6 = .ok (.iload_n 1, 1) := by decide +kernel
theorem dX12_isCode_7 : decode cX12_isCode 7 = .ok (.ifCond .lt 15, 3) := by decide +kernel
theorem dX12_isCode_10 : decode cX12_isCode 10 = .ok (.iload_n 1, 1) := by decide +kernel
theorem dX12_isCode_11 : decode cX12_isCode 11 = .ok (.aload_n 0, 1) := by decide +kernel
theorem dX12_isCode_12 : decode cX12_isCode 12 = .ok (.getfield 145, 3) := by decide +kernel
theorem dX12_isCode_15 : decode cX12_isCode 15 = .ok (.if_icmp .ge 7, 3) := by decide +kernel
theorem dX12_isCode_18 : decode cX12_isCode 18 = .ok (.iconst 1, 1) := by decide +kernel
theorem dX12_isCode_19 : decode cX12_isCode 19 = .ok (.goto 4, 3) := by decide +kernel
theorem dX12_isCode_22 : decode cX12_isCode 22 = .ok (.iconst 0, 1) := by decide +kernel
theorem dX12_isCode_23 : decode cX12_isCode 23 = .ok (.iconst 1, 1) := by decide +kernel
theorem dX12_isCode_24 : decode cX12_isCode 24 = .ok (.invokevirtual 133, 3) := by decide +kernel
theorem dX12_isCode_27 : decode cX12_isCode 27 = .ok (.ireturn, 1) := by decide +kernel
theorem dX12_fits_0 : decode cX12_fits 0 = .ok (.iload_n 0, 1) := by decide +kernel
theorem dX12_fits_1 : decode cX12_fits 1 = .ok (.ifCond .lt 14, 3) := by decide +kernel
theorem dX12_fits_4 : decode cX12_fits 4 = .ok (.iload_n 0, 1) := by decide +kernel
theorem dX12_fits_5 : decode cX12_fits 5 = .ok (.iconst 1, 1) := by decide +kernel
theorem dX12_fits_6 : decode cX12_fits 6 = .ok (.iload_n 1, 1) := by decide +kernel
theorem dX12_fits_7 : decode cX12_fits 7 = .ok (.ishl, 1) := by decide +kernel
theorem dX12_fits_8 : decode cX12_fits 8 = .ok (.if_icmp .ge 7, 3) := by decide +kernel
theorem dX12_fits_11 : decode cX12_fits 11 = .ok (.iconst 1, 1) := by decide +kernel
theorem dX12_fits_12 : decode cX12_fits 12 = .ok (.goto 4, 3) := by decide +kernel
theorem dX12_fits_15 : decode cX12_fits 15 = .ok (.iconst 0, 1) := by decide +kernel
theorem dX12_fits_16 : decode cX12_fits 16 = .ok (.ireturn, 1) := by decide +kernel
theorem dX12_tap_0 : decode cX12_tap 0 = .ok (.aload_n 0, 1) := by decide +kernel
theorem dX12_tap_1 : decode cX12_tap 1 = .ok (.iload_n 1, 1) := by decide +kernel
theorem dX12_tap_2 : decode cX12_tap 2 = .ok (.invokevirtual 152, 3) := by decide +kernel
theorem dX12_tap_5 : decode cX12_tap 5 = .ok (.ifCond .eq 53, 3) := by decide +kernel
theorem dX12_tap_8 : decode cX12_tap 8 = .ok (.aload_n 0, 1) := by decide +kernel
theorem dX12_tap_9 : decode cX12_tap 9 = .ok (.iload_n 2, 1) := by decide +kernel
theorem dX12_tap_10 : decode cX12_tap 10 = .ok (.iconst (-1), 1) := by decide +kernel
theorem dX12_tap_11 : decode cX12_tap 11 = .ok (.if_icmp .ne 21, 3) := by decide +kernel
theorem dX12_tap_14 : decode cX12_tap 14 = .ok (.aload_n 0, 1) := by decide +kernel
theorem dX12_tap_15 : decode cX12_tap 15 = .ok (.getfield 22, 3) := by decide +kernel
theorem dX12_tap_18 : decode cX12_tap 18 = .ok (.iload_n 1, 1) := by decide +kernel
theorem dX12_tap_19 : decode cX12_tap 19 = .ok (.iaload, 1) := by decide +kernel
theorem dX12_tap_20 : decode cX12_tap 20 = .ok (.iconst 1, 1) := by decide +kernel
theorem dX12_tap_21 : decode cX12_tap 21 = .ok (.if_icmp .lt 7, 3) := by decide +kernel
theorem dX12_tap_24 : decode cX12_tap 24 = .ok (.iconst 1, 1) := by decide +kernel
theorem dX12_tap_25 : decode cX12_tap 25 = .ok (.goto 26, 3) := by decide +kernel
theorem dX12_tap_28 : decode cX12_tap 28 = .ok (.iconst 0, 1) := by decide +kernel
theorem dX12_tap_29 : decode cX12_tap 29 = .ok (.goto 22, 3) := by decide +kernel
theorem dX12_tap_32 : decode cX12_tap 32 = .ok (.iload_n 2, 1) := by decide +kernel
theorem dX12_tap_33 : decode cX12_tap 33 = .ok (.ifCond .lt 17, 3) := by decide +kernel
theorem dX12_tap_36 : decode cX12_tap 36 = .ok (.iload_n 2, 1) := by decide +kernel
theorem dX12_tap_37 : decode cX12_tap 37 = .ok (.aload_n 0, 1) := by decide +kernel
theorem dX12_tap_38 : decode cX12_tap 38 = .ok (.getfield 28, 3) := by decide +kernel
theorem dX12_tap_41 : decode cX12_tap 41 = .ok (.iload_n 1, 1) := by decide +kernel
theorem dX12_tap_42 : decode cX12_tap 42 = .ok (.iaload, 1) := by decide +kernel
theorem dX12_tap_43 : decode cX12_tap 43 = .ok (.if_icmp .ge 7, 3) := by decide +kernel
theorem dX12_tap_46 : decode cX12_tap 46 = .ok (.iconst 1, 1) := by decide +kernel
theorem dX12_tap_47 : decode cX12_tap 47 = .ok (.goto 4, 3) := by decide +kernel
theorem dX12_tap_50 : decode cX12_tap 50 = .ok (.iconst 0, 1) := by decide +kernel
theorem dX12_tap_51 : decode cX12_tap 51 = .ok (.iconst 2, 1) := by decide +kernel
theorem dX12_tap_52 : decode cX12_tap 52 = .ok (.invokevirtual 133, 3) := by decide +kernel
theorem dX12_tap_55 : decode cX12_tap 55 = .ok (.ifCond .ne 5, 3) := by decide +kernel
theorem dX12_tap_58 : decode cX12_tap 58 = .ok (.iconst 0, 1) := by decide +kernel
theorem dX12_tap_59 : decode cX12_tap 59 = .ok (.ireturn, 1) := by decide +kernel
theorem dX12_tap_60 : decode cX12_tap 60 = .ok (.aload_n 0, 1) := by decide +kernel
theorem dX12_tap_61 : decode cX12_tap 61 = .ok (.iload_n 3, 1) := by decide +kernel
theorem dX12_tap_62 : decode cX12_tap 62 = .ok (.iload_n 2, 1) := by decide +kernel
theorem dX12_tap_63 : decode cX12_tap 63 = .ok (.iconst (-1), 1) := by decide +kernel
theorem dX12_tap_64 : decode cX12_tap 64 = .ok (.if_icmp .ne 12, 3) := by decide +kernel
theorem dX12_tap_67 : decode cX12_tap 67 = .ok (.aload_n 0, 1) := by decide +kernel
theorem dX12_tap_68 : decode cX12_tap 68 = .ok (.getfield 25, 3) := by decide +kernel
theorem dX12_tap_71 : decode cX12_tap 71 = .ok (.iload_n 1, 1) := by decide +kernel
theorem dX12_tap_72 : decode cX12_tap 72 = .ok (.iaload, 1) := by decide +kernel
theorem dX12_tap_73 : decode cX12_tap 73 = .ok (.goto 11, 3) := by decide +kernel
theorem dX12_tap_76 : decode cX12_tap 76 = .ok (.aload_n 0, 1) := by decide +kernel
theorem dX12_tap_77 : decode cX12_tap 77 = .ok (.getfield 25, 3) := by decide +kernel
theorem dX12_tap_80 : decode cX12_tap 80 = .ok (.iload_n 1, 1) := by decide +kernel
theorem dX12_tap_81 : decode cX12_tap 81 = .ok (.iaload, 1) := by decide +kernel
theorem dX12_tap_82 : decode cX12_tap 82 = .ok (.iconst 1, 1) := by decide +kernel
theorem dX12_tap_83 : decode cX12_tap 83 = .ok (.iadd, 1) := by decide +kernel
theorem dX12_tap_84 : decode cX12_tap 84 = .ok (.invokestatic 155, 3) := by decide +kernel
theorem dX12_tap_87 : decode cX12_tap 87 = .ok (.iconst 3, 1) := by decide +kernel
theorem dX12_tap_88 : decode cX12_tap 88 = .ok (.invokevirtual 133, 3) := by decide +kernel
theorem dX12_tap_91 : decode cX12_tap 91 = .ok (.ifCond .ne 5, 3) := by decide +kernel
theorem dX12_tap_94 : decode cX12_tap 94 = .ok (.iconst 0, 1) := by decide +kernel
theorem dX12_tap_95 : decode cX12_tap 95 = .ok (.ireturn, 1) := by decide +kernel
theorem dX12_tap_96 : decode cX12_tap 96 = .ok (.iload_n 2, 1) := by decide +kernel
theorem dX12_tap_97 : decode cX12_tap 97 = .ok (.iconst (-1), 1) := by decide +kernel
theorem dX12_tap_98 : decode cX12_tap 98 = .ok (.if_icmp .ne 12, 3) := by decide +kernel
theorem dX12_tap_101 : decode cX12_tap 101 = .ok (.aload_n 0, 1) := by decide +kernel
theorem dX12_tap_102 : decode cX12_tap 102 = .ok (.getfield 31, 3) := by decide +kernel
theorem dX12_tap_105 : decode cX12_tap 105 = .ok (.iload_n 1, 1) := by decide +kernel
theorem dX12_tap_106 : decode cX12_tap 106 = .ok (.iaload, 1) := by decide +kernel
theorem dX12_tap_107 : decode cX12_tap 107 = .ok (.goto 13, 3) := by decide +kernel
theorem dX12_tap_110 : decode cX12_tap 110 = .ok (.aload_n 0, 1) := by decide +kernel
theorem dX12_tap_111 : decode cX12_tap 111 = .ok (.getfield 40, 3) := by decide +kernel
theorem dX12_tap_114 : decode cX12_tap 114 = .ok (.iconst 4, 1) := by decide +kernel
theorem dX12_tap_115 : decode cX12_tap 115 = .ok (.iload_n 1, 1) := by decide +kernel
theorem dX12_tap_116 : decode cX12_tap 116 = .ok (.imul, 1) := by decide +kernel
theorem dX12_tap_117 : decode cX12_tap 117 = .ok (.iload_n 2, 1) := by decide +kernel
theorem dX12_tap_118 : decode cX12_tap 118 = .ok (.iadd, 1) := by decide +kernel
theorem dX12_tap_119 : decode cX12_tap 119 = .ok (.iaload, 1) := by decide +kernel
theorem dX12_tap_120 : decode cX12_tap 120 = .ok (.istore 4, 2) := by decide +kernel
theorem dX12_tap_122 : decode cX12_tap 122 = .ok (.iload_n 2, 1) := by decide +kernel
theorem dX12_tap_123 : decode cX12_tap 123 = .ok (.iconst (-1), 1) := by decide +kernel
theorem dX12_tap_124 : decode cX12_tap 124 = .ok (.if_icmp .ne 13, 3) := by decide +kernel
theorem dX12_tap_127 : decode cX12_tap 127 = .ok (.aload_n 0, 1) := by decide +kernel
theorem dX12_tap_128 : decode cX12_tap 128 = .ok (.getfield 31, 3) := by decide +kernel
theorem dX12_tap_131 : decode cX12_tap 131 = .ok (.iload_n 1, 1) := by decide +kernel
theorem dX12_tap_132 : decode cX12_tap 132 = .ok (.iload_n 3, 1) := by decide +kernel
theorem dX12_tap_133 : decode cX12_tap 133 = .ok (.iastore, 1) := by decide +kernel
theorem dX12_tap_134 : decode cX12_tap 134 = .ok (.goto 14, 3) := by decide +kernel
theorem dX12_tap_137 : decode cX12_tap 137 = .ok (.aload_n 0, 1) := by decide +kernel
theorem dX12_tap_138 : decode cX12_tap 138 = .ok (.getfield 40, 3) := by decide +kernel
theorem dX12_tap_141 : decode cX12_tap 141 = .ok (.iconst 4, 1) := by decide +kernel
theorem dX12_tap_142 : decode cX12_tap 142 = .ok (.iload_n 1, 1) := by decide +kernel
theorem dX12_tap_143 : decode cX12_tap 143 = .ok (.imul, 1) := by decide +kernel
theorem dX12_tap_144 : decode cX12_tap 144 = .ok (.iload_n 2, 1) := by decide +kernel
theorem dX12_tap_145 : decode cX12_tap 145 = .ok (.iadd, 1) := by decide +kernel
theorem dX12_tap_146 : decode cX12_tap 146 = .ok (.iload_n 3, 1) := by decide +kernel
theorem dX12_tap_147 : decode cX12_tap 147 = .ok (.iastore, 1) := by decide +kernel
theorem dX12_tap_148 : decode cX12_tap 148 = .ok (.iload 4, 2) := by decide +kernel
theorem dX12_tap_150 : decode cX12_tap 150 = .ok (.ireturn, 1) := by decide +kernel
theorem dX12_keep_0 : decode cX12_keep 0 = .ok (.aload_n 0, 1) := by decide +kernel
theorem dX12_keep_1 : decode cX12_keep 1 = .ok (.iload_n 1, 1) := by decide +kernel
theorem dX12_keep_2 : decode cX12_keep 2 = .ok (.invokevirtual 152, 3) := by decide +kernel
theorem dX12_keep_5 : decode cX12_keep 5 = .ok (.ifCond .eq 26, 3) := by decide +kernel
theorem dX12_keep_8 : decode cX12_keep 8 = .ok (.aload_n 0, 1) := by decide +kernel
theorem dX12_keep_9 : decode cX12_keep 9 = .ok (.aload_n 0, 1) := by decide +kernel
theorem dX12_keep_10 : decode cX12_keep 10 = .ok (.getfield 22, 3) := by decide +kernel
theorem dX12_keep_13 : decode cX12_keep 13 = .ok (.iload_n 1, 1) := by decide +kernel
theorem dX12_keep_14 : decode cX12_keep 14 = .ok (.iaload, 1) := by decide +kernel
theorem dX12_keep_15 : decode cX12_keep 15 = .ok (.iconst 2, 1) := by decide +kernel
theorem dX12_keep_16 : decode cX12_keep 16 = .ok (.if_icmp .lt 7, 3) := by decide +kernel
theorem dX12_keep_19 : decode cX12_keep 19 = .ok (.iconst 1, 1) := by decide +kernel
theorem dX12_keep_20 : decode cX12_keep 20 = .ok (.goto 4, 3) := by decide +kernel
theorem dX12_keep_23 : decode cX12_keep 23 = .ok (.iconst 0, 1) := by decide +kernel
theorem dX12_keep_24 : decode cX12_keep 24 = .ok (.iconst 2, 1) := by decide +kernel
theorem dX12_keep_25 : decode cX12_keep 25 = .ok (.invokevirtual 133, 3) := by decide +kernel
theorem dX12_keep_28 : decode cX12_keep 28 = .ok (.ifCond .ne 5, 3) := by decide +kernel
theorem dX12_keep_31 : decode cX12_keep 31 = .ok (.iconst 0, 1) := by decide +kernel
theorem dX12_keep_32 : decode cX12_keep 32 = .ok (.ireturn, 1) := by decide +kernel
theorem dX12_keep_33 : decode cX12_keep 33 = .ok (.aload_n 0, 1) := by decide +kernel
theorem dX12_keep_34 : decode cX12_keep 34 = .ok (.iload_n 2, 1) := by decide +kernel
theorem dX12_keep_35 : decode cX12_keep 35 = .ok (.iconst 1, 1) := by decide +kernel
theorem dX12_keep_36 : decode cX12_keep 36 = .ok (.if_icmp .lt 35, 3) := by decide +kernel
theorem dX12_keep_39 : decode cX12_keep 39 = .ok (.iload_n 2, 1) := by decide +kernel
theorem dX12_keep_40 : decode cX12_keep 40 = .ok (.bipush 8, 2) := by decide +kernel
theorem dX12_keep_42 : decode cX12_keep 42 = .ok (.if_icmp .gt 29, 3) := by decide +kernel
theorem dX12_keep_45 : decode cX12_keep 45 = .ok (.iload_n 3, 1) := by decide +kernel
theorem dX12_keep_46 : decode cX12_keep 46 = .ok (.ifCond .lt 25, 3) := by decide +kernel
theorem dX12_keep_49 : decode cX12_keep 49 = .ok (.iload_n 3, 1) := by decide +kernel
theorem dX12_keep_50 : decode cX12_keep 50 = .ok (.iload_n 2, 1) := by decide +kernel
theorem dX12_keep_51 : decode cX12_keep 51 = .ok (.if_icmp .ge 20, 3) := by decide +kernel
theorem dX12_keep_54 : decode cX12_keep 54 = .ok (.iload 4, 2) := by decide +kernel
theorem dX12_keep_56 : decode cX12_keep 56 = .ok (.aload_n 0, 1) := by decide +kernel
theorem dX12_keep_57 : decode cX12_keep 57 = .ok (.iload_n 1, 1) := by decide +kernel
theorem dX12_keep_58 : decode cX12_keep 58 = .ok (.invokevirtual 148, 3) := by decide +kernel
theorem dX12_keep_61 : decode cX12_keep 61 = .ok (.invokestatic 155, 3) := by decide +kernel
theorem dX12_keep_64 : decode cX12_keep 64 = .ok (.ifCond .eq 7, 3) := by decide +kernel
theorem dX12_keep_67 : decode cX12_keep 67 = .ok (.iconst 1, 1) := by decide +kernel
theorem dX12_keep_68 : decode cX12_keep 68 = .ok (.goto 4, 3) := by decide +kernel
theorem dX12_keep_71 : decode cX12_keep 71 = .ok (.iconst 0, 1) := by decide +kernel
theorem dX12_keep_72 : decode cX12_keep 72 = .ok (.iconst 3, 1) := by decide +kernel
theorem dX12_keep_73 : decode cX12_keep 73 = .ok (.invokevirtual 133, 3) := by decide +kernel
theorem dX12_keep_76 : decode cX12_keep 76 = .ok (.ifCond .ne 5, 3) := by decide +kernel
theorem dX12_keep_79 : decode cX12_keep 79 = .ok (.iconst 0, 1) := by decide +kernel
theorem dX12_keep_80 : decode cX12_keep 80 = .ok (.ireturn, 1) := by decide +kernel
theorem dX12_keep_81 : decode cX12_keep 81 = .ok (.aload_n 0, 1) := by decide +kernel
theorem dX12_keep_82 : decode cX12_keep 82 = .ok (.getfield 34, 3) := by decide +kernel
theorem dX12_keep_85 : decode cX12_keep 85 = .ok (.iload_n 1, 1) := by decide +kernel
theorem dX12_keep_86 : decode cX12_keep 86 = .ok (.iaload, 1) := by decide +kernel
theorem dX12_keep_87 : decode cX12_keep 87 = .ok (.istore 5, 2) := by decide +kernel
theorem dX12_keep_89 : decode cX12_keep 89 = .ok (.iload_n 2, 1) := by decide +kernel
theorem dX12_keep_90 : decode cX12_keep 90 = .ok (.iload 5, 2) := by decide +kernel
theorem dX12_keep_92 : decode cX12_keep 92 = .ok (.invokestatic 158, 3) := by decide +kernel
theorem dX12_keep_95 : decode cX12_keep 95 = .ok (.istore 6, 2) := by decide +kernel
theorem dX12_keep_97 : decode cX12_keep 97 = .ok (.iload 6, 2) := by decide +kernel
theorem dX12_keep_99 : decode cX12_keep 99 = .ok (.bipush 8, 2) := by decide +kernel
theorem dX12_keep_101 : decode cX12_keep 101 = .ok (.if_icmp .ge 22, 3) := by decide +kernel
theorem dX12_keep_104 : decode cX12_keep 104 = .ok (.aload_n 0, 1) := by decide +kernel
theorem dX12_keep_105 : decode cX12_keep 105 = .ok (.getfield 43, 3) := by decide +kernel
theorem dX12_keep_108 : decode cX12_keep 108 = .ok (.bipush 8, 2) := by decide +kernel
theorem dX12_keep_110 : decode cX12_keep 110 = .ok (.iload_n 1, 1) := by decide +kernel
theorem dX12_keep_111 : decode cX12_keep 111 = .ok (.imul, 1) := by decide +kernel
theorem dX12_keep_112 : decode cX12_keep 112 = .ok (.iload 6, 2) := by decide +kernel
theorem dX12_keep_114 : decode cX12_keep 114 = .ok (.iadd, 1) := by decide +kernel
theorem dX12_keep_115 : decode cX12_keep 115 = .ok (.iconst 0, 1) := by decide +kernel
theorem dX12_keep_116 : decode cX12_keep 116 = .ok (.iastore, 1) := by decide +kernel
theorem dX12_keep_117 : decode cX12_keep 117 = .ok (.iinc 6 1, 3) := by decide +kernel
theorem dX12_keep_120 : decode cX12_keep 120 = .ok (.goto (-23), 3) := by decide +kernel
theorem dX12_keep_123 : decode cX12_keep 123 = .ok (.aload_n 0, 1) := by decide +kernel
theorem dX12_keep_124 : decode cX12_keep 124 = .ok (.getfield 34, 3) := by decide +kernel
theorem dX12_keep_127 : decode cX12_keep 127 = .ok (.iload_n 1, 1) := by decide +kernel
theorem dX12_keep_128 : decode cX12_keep 128 = .ok (.iload_n 2, 1) := by decide +kernel
theorem dX12_keep_129 : decode cX12_keep 129 = .ok (.iastore, 1) := by decide +kernel
theorem dX12_keep_130 : decode cX12_keep 130 = .ok (.aload_n 0, 1) := by decide +kernel
theorem dX12_keep_131 : decode cX12_keep 131 = .ok (.getfield 43, 3) := by decide +kernel
theorem dX12_keep_134 : decode cX12_keep 134 = .ok (.bipush 8, 2) := by decide +kernel
theorem dX12_keep_136 : decode cX12_keep 136 = .ok (.iload_n 1, 1) := by decide +kernel
theorem dX12_keep_137 : decode cX12_keep 137 = .ok (.imul, 1) := by decide +kernel
theorem dX12_keep_138 : decode cX12_keep 138 = .ok (.iload_n 3, 1) := by decide +kernel
theorem dX12_keep_139 : decode cX12_keep 139 = .ok (.iadd, 1) := by decide +kernel
theorem dX12_keep_140 : decode cX12_keep 140 = .ok (.iload 4, 2) := by decide +kernel
theorem dX12_keep_142 : decode cX12_keep 142 = .ok (.iastore, 1) := by decide +kernel
theorem dX12_keep_143 : decode cX12_keep 143 = .ok (.iload 5, 2) := by decide +kernel
theorem dX12_keep_145 : decode cX12_keep 145 = .ok (.ireturn, 1) := by decide +kernel
theorem dX12_stride_0 : decode cX12_stride 0 = .ok (.aload_n 0, 1) := by decide +kernel
theorem dX12_stride_1 : decode cX12_stride 1 = .ok (.iload_n 1, 1) := by decide +kernel
theorem dX12_stride_2 : decode cX12_stride 2 = .ok (.invokevirtual 152, 3) := by decide +kernel
theorem dX12_stride_5 : decode cX12_stride 5 = .ok (.ifCond .eq 51, 3) := by decide +kernel
theorem dX12_stride_8 : decode cX12_stride 8 = .ok (.aload_n 0, 1) := by decide +kernel
theorem dX12_stride_9 : decode cX12_stride 9 = .ok (.aload_n 0, 1) := by decide +kernel
theorem dX12_stride_10 : decode cX12_stride 10 = .ok (.getfield 22, 3) := by decide +kernel
theorem dX12_stride_13 : decode cX12_stride 13 = .ok (.iload_n 1, 1) := by decide +kernel
theorem dX12_stride_14 : decode cX12_stride 14 = .ok (.iaload, 1) := by decide +kernel
theorem dX12_stride_15 : decode cX12_stride 15 = .ok (.iconst 5, 1) := by decide +kernel
theorem dX12_stride_16 : decode cX12_stride 16 = .ok (.if_icmp .ne 7, 3) := by decide +kernel
theorem dX12_stride_19 : decode cX12_stride 19 = .ok (.iconst 1, 1) := by decide +kernel
theorem dX12_stride_20 : decode cX12_stride 20 = .ok (.goto 4, 3) := by decide +kernel
theorem dX12_stride_23 : decode cX12_stride 23 = .ok (.iconst 0, 1) := by decide +kernel
theorem dX12_stride_24 : decode cX12_stride 24 = .ok (.iconst 2, 1) := by decide +kernel
theorem dX12_stride_25 : decode cX12_stride 25 = .ok (.invokevirtual 133, 3) := by decide +kernel
theorem dX12_stride_28 : decode cX12_stride 28 = .ok (.ifCond .eq 28, 3) := by decide +kernel
theorem dX12_stride_31 : decode cX12_stride 31 = .ok (.aload_n 0, 1) := by decide +kernel
theorem dX12_stride_32 : decode cX12_stride 32 = .ok (.iload_n 2, 1) := by decide +kernel
theorem dX12_stride_33 : decode cX12_stride 33 = .ok (.iconst 1, 1) := by decide +kernel
theorem dX12_stride_34 : decode cX12_stride 34 = .ok (.if_icmp .lt 14, 3) := by decide +kernel
theorem dX12_stride_37 : decode cX12_stride 37 = .ok (.iload_n 2, 1) := by decide +kernel
theorem dX12_stride_38 : decode cX12_stride 38 = .ok (.sipush 199, 3) := by decide +kernel
theorem dX12_stride_41 : decode cX12_stride 41 = .ok (.if_icmp .gt 7, 3) := by decide +kernel
theorem dX12_stride_44 : decode cX12_stride 44 = .ok (.iconst 1, 1) := by decide +kernel
theorem dX12_stride_45 : decode cX12_stride 45 = .ok (.goto 4, 3) := by decide +kernel
theorem dX12_stride_48 : decode cX12_stride 48 = .ok (.iconst 0, 1) := by decide +kernel
theorem dX12_stride_49 : decode cX12_stride 49 = .ok (.iconst 3, 1) := by decide +kernel
theorem dX12_stride_50 : decode cX12_stride 50 = .ok (.invokevirtual 133, 3) := by decide +kernel
theorem dX12_stride_53 : decode cX12_stride 53 = .ok (.ifCond .ne 5, 3) := by decide +kernel
theorem dX12_stride_56 : decode cX12_stride 56 = .ok (.iconst 0, 1) := by decide +kernel
theorem dX12_stride_57 : decode cX12_stride 57 = .ok (.ireturn, 1) := by decide +kernel
theorem dX12_stride_58 : decode cX12_stride 58 = .ok (.aload_n 0, 1) := by decide +kernel
theorem dX12_stride_59 : decode cX12_stride 59 = .ok (.getfield 37, 3) := by decide +kernel
theorem dX12_stride_62 : decode cX12_stride 62 = .ok (.iload_n 1, 1) := by decide +kernel
theorem dX12_stride_63 : decode cX12_stride 63 = .ok (.iaload, 1) := by decide +kernel
theorem dX12_stride_64 : decode cX12_stride 64 = .ok (.istore_n 3, 1) := by decide +kernel
theorem dX12_stride_65 : decode cX12_stride 65 = .ok (.aload_n 0, 1) := by decide +kernel
theorem dX12_stride_66 : decode cX12_stride 66 = .ok (.getfield 37, 3) := by decide +kernel
theorem dX12_stride_69 : decode cX12_stride 69 = .ok (.iload_n 1, 1) := by decide +kernel
theorem dX12_stride_70 : decode cX12_stride 70 = .ok (.iload_n 2, 1) := by decide +kernel
theorem dX12_stride_71 : decode cX12_stride 71 = .ok (.iastore, 1) := by decide +kernel
theorem dX12_stride_72 : decode cX12_stride 72 = .ok (.iload_n 3, 1) := by decide +kernel
theorem dX12_stride_73 : decode cX12_stride 73 = .ok (.ireturn, 1) := by decide +kernel
theorem dX12_about_0 : decode cX12_about 0 = .ok (.aload_n 0, 1) := by decide +kernel
theorem dX12_about_1 : decode cX12_about 1 = .ok (.iload_n 1, 1) := by decide +kernel
theorem dX12_about_2 : decode cX12_about 2 = .ok (.invokevirtual 152, 3) := by decide +kernel
theorem dX12_about_5 : decode cX12_about 5 = .ok (.ifCond .eq 26, 3) := by decide +kernel
theorem dX12_about_8 : decode cX12_about 8 = .ok (.aload_n 0, 1) := by decide +kernel
theorem dX12_about_9 : decode cX12_about 9 = .ok (.iload_n 2, 1) := by decide +kernel
theorem dX12_about_10 : decode cX12_about 10 = .ok (.ifCond .lt 13, 3) := by decide +kernel
theorem dX12_about_13 : decode cX12_about 13 = .ok (.iload_n 2, 1) := by decide +kernel
theorem dX12_about_14 : decode cX12_about 14 = .ok (.bipush 18, 2) := by decide +kernel
theorem dX12_about_16 : decode cX12_about 16 = .ok (.if_icmp .gt 7, 3) := by decide +kernel
theorem dX12_about_19 : decode cX12_about 19 = .ok (.iconst 1, 1) := by decide +kernel
theorem dX12_about_20 : decode cX12_about 20 = .ok (.goto 4, 3) := by decide +kernel
theorem dX12_about_23 : decode cX12_about 23 = .ok (.iconst 0, 1) := by decide +kernel
theorem dX12_about_24 : decode cX12_about 24 = .ok (.iconst 2, 1) := by decide +kernel
theorem dX12_about_25 : decode cX12_about 25 = .ok (.invokevirtual 133, 3) := by decide +kernel
theorem dX12_about_28 : decode cX12_about 28 = .ok (.ifCond .ne 5, 3) := by decide +kernel
theorem dX12_about_31 : decode cX12_about 31 = .ok (.iconst 0, 1) := by decide +kernel
theorem dX12_about_32 : decode cX12_about 32 = .ok (.ireturn, 1) := by decide +kernel
theorem dX12_about_33 : decode cX12_about 33 = .ok (.iload_n 2, 1) := by decide +kernel
theorem dX12_about_34 : decode cX12_about 34 = .ok (.bipush 7, 2) := by decide +kernel
theorem dX12_about_36 : decode cX12_about 36 = .ok (.if_icmp .lt 40, 3) := by decide +kernel
theorem dX12_about_39 : decode cX12_about 39 = .ok (.iload_n 2, 1) := by decide +kernel
theorem dX12_about_40 : decode cX12_about 40 = .ok (.bipush 10, 2) := by decide +kernel
theorem dX12_about_42 : decode cX12_about 42 = .ok (.if_icmp .gt 34, 3) := by decide +kernel
theorem dX12_about_45 : decode cX12_about 45 = .ok (.iload_n 2, 1) := by decide +kernel
theorem dX12_about_46 : decode cX12_about 46 = .ok (.bipush 7, 2) := by decide +kernel
theorem dX12_about_48 : decode cX12_about 48 = .ok (.isub, 1) := by decide +kernel
theorem dX12_about_49 : decode cX12_about 49 = .ok (.aload_n 0, 1) := by decide +kernel
theorem dX12_about_50 : decode cX12_about 50 = .ok (.getfield 28, 3) := by decide +kernel
theorem dX12_about_53 : decode cX12_about 53 = .ok (.iload_n 1, 1) := by decide +kernel
theorem dX12_about_54 : decode cX12_about 54 = .ok (.iaload, 1) := by decide +kernel
theorem dX12_about_55 : decode cX12_about 55 = .ok (.if_icmp .ge 19, 3) := by decide +kernel
theorem dX12_about_58 : decode cX12_about 58 = .ok (.aload_n 0, 1) := by decide +kernel
theorem dX12_about_59 : decode cX12_about 59 = .ok (.getfield 40, 3) := by decide +kernel
theorem dX12_about_62 : decode cX12_about 62 = .ok (.iconst 4, 1) := by decide +kernel
theorem dX12_about_63 : decode cX12_about 63 = .ok (.iload_n 1, 1) := by decide +kernel
theorem dX12_about_64 : decode cX12_about 64 = .ok (.imul, 1) := by decide +kernel
theorem dX12_about_65 : decode cX12_about 65 = .ok (.iload_n 2, 1) := by decide +kernel
theorem dX12_about_66 : decode cX12_about 66 = .ok (.iadd, 1) := by decide +kernel
theorem dX12_about_67 : decode cX12_about 67 = .ok (.bipush 7, 2) := by decide +kernel
theorem dX12_about_69 : decode cX12_about 69 = .ok (.isub, 1) := by decide +kernel
theorem dX12_about_70 : decode cX12_about 70 = .ok (.iaload, 1) := by decide +kernel
theorem dX12_about_71 : decode cX12_about 71 = .ok (.goto 4, 3) := by decide +kernel
theorem dX12_about_74 : decode cX12_about 74 = .ok (.iconst (-1), 1) := by decide +kernel
theorem dX12_about_75 : decode cX12_about 75 = .ok (.ireturn, 1) := by decide +kernel
theorem dX12_about_76 : decode cX12_about 76 = .ok (.iload_n 2, 1) := by decide +kernel
theorem dX12_about_77 : decode cX12_about 77 = .ok (.bipush 11, 2) := by decide +kernel
theorem dX12_about_79 : decode cX12_about 79 = .ok (.if_icmp .lt 45, 3) := by decide +kernel
theorem dX12_about_82 : decode cX12_about 82 = .ok (.aload_n 0, 1) := by decide +kernel
theorem dX12_about_83 : decode cX12_about 83 = .ok (.getfield 22, 3) := by decide +kernel
theorem dX12_about_86 : decode cX12_about 86 = .ok (.iload_n 1, 1) := by decide +kernel
theorem dX12_about_87 : decode cX12_about 87 = .ok (.iaload, 1) := by decide +kernel
theorem dX12_about_88 : decode cX12_about 88 = .ok (.iconst 2, 1) := by decide +kernel
theorem dX12_about_89 : decode cX12_about 89 = .ok (.if_icmp .lt 33, 3) := by decide +kernel
theorem dX12_about_92 : decode cX12_about 92 = .ok (.iload_n 2, 1) := by decide +kernel
theorem dX12_about_93 : decode cX12_about 93 = .ok (.bipush 11, 2) := by decide +kernel
theorem dX12_about_95 : decode cX12_about 95 = .ok (.isub, 1) := by decide +kernel
theorem dX12_about_96 : decode cX12_about 96 = .ok (.aload_n 0, 1) := by decide +kernel
theorem dX12_about_97 : decode cX12_about 97 = .ok (.getfield 34, 3) := by decide +kernel
theorem dX12_about_100 : decode cX12_about 100 = .ok (.iload_n 1, 1) := by decide +kernel
theorem dX12_about_101 : decode cX12_about 101 = .ok (.iaload, 1) := by decide +kernel
theorem dX12_about_102 : decode cX12_about 102 = .ok (.if_icmp .ge 20, 3) := by decide +kernel
theorem dX12_about_105 : decode cX12_about 105 = .ok (.aload_n 0, 1) := by decide +kernel
theorem dX12_about_106 : decode cX12_about 106 = .ok (.getfield 43, 3) := by decide +kernel
theorem dX12_about_109 : decode cX12_about 109 = .ok (.bipush 8, 2) := by decide +kernel
theorem dX12_about_111 : decode cX12_about 111 = .ok (.iload_n 1, 1) := by decide +kernel
theorem dX12_about_112 : decode cX12_about 112 = .ok (.imul, 1) := by decide +kernel
theorem dX12_about_113 : decode cX12_about 113 = .ok (.iload_n 2, 1) := by decide +kernel
theorem dX12_about_114 : decode cX12_about 114 = .ok (.iadd, 1) := by decide +kernel
theorem dX12_about_115 : decode cX12_about 115 = .ok (.bipush 11, 2) := by decide +kernel
theorem dX12_about_117 : decode cX12_about 117 = .ok (.isub, 1) := by decide +kernel
theorem dX12_about_118 : decode cX12_about 118 = .ok (.iaload, 1) := by decide +kernel
theorem dX12_about_119 : decode cX12_about 119 = .ok (.goto 4, 3) := by decide +kernel
theorem dX12_about_122 : decode cX12_about 122 = .ok (.iconst (-1), 1) := by decide +kernel
theorem dX12_about_123 : decode cX12_about 123 = .ok (.ireturn, 1) := by decide +kernel
theorem dX12_about_124 : decode cX12_about 124 = .ok (.iload_n 2, 1) := by decide +kernel
theorem dX12_about_125 : decode cX12_about 125 = .ok (.tableswitch 83 0 5 #[39, 46, 53, 60, 69, 76], 39) := by decide +kernel
theorem dX12_about_164 : decode cX12_about 164 = .ok (.aload_n 0, 1) := by decide +kernel
theorem dX12_about_165 : decode cX12_about 165 = .ok (.getfield 22, 3) := by decide +kernel
theorem dX12_about_168 : decode cX12_about 168 = .ok (.iload_n 1, 1) := by decide +kernel
theorem dX12_about_169 : decode cX12_about 169 = .ok (.iaload, 1) := by decide +kernel
theorem dX12_about_170 : decode cX12_about 170 = .ok (.ireturn, 1) := by decide +kernel
theorem dX12_about_171 : decode cX12_about 171 = .ok (.aload_n 0, 1) := by decide +kernel
theorem dX12_about_172 : decode cX12_about 172 = .ok (.getfield 25, 3) := by decide +kernel
theorem dX12_about_175 : decode cX12_about 175 = .ok (.iload_n 1, 1) := by decide +kernel
theorem dX12_about_176 : decode cX12_about 176 = .ok (.iaload, 1) := by decide +kernel
theorem dX12_about_177 : decode cX12_about 177 = .ok (.ireturn, 1) := by decide +kernel
theorem dX12_about_178 : decode cX12_about 178 = .ok (.aload_n 0, 1) := by decide +kernel
theorem dX12_about_179 : decode cX12_about 179 = .ok (.getfield 28, 3) := by decide +kernel
theorem dX12_about_182 : decode cX12_about 182 = .ok (.iload_n 1, 1) := by decide +kernel
theorem dX12_about_183 : decode cX12_about 183 = .ok (.iaload, 1) := by decide +kernel
theorem dX12_about_184 : decode cX12_about 184 = .ok (.ireturn, 1) := by decide +kernel
theorem dX12_about_185 : decode cX12_about 185 = .ok (.iconst 1, 1) := by decide +kernel
theorem dX12_about_186 : decode cX12_about 186 = .ok (.aload_n 0, 1) := by decide +kernel
theorem dX12_about_187 : decode cX12_about 187 = .ok (.getfield 25, 3) := by decide +kernel
theorem dX12_about_190 : decode cX12_about 190 = .ok (.iload_n 1, 1) := by decide +kernel
theorem dX12_about_191 : decode cX12_about 191 = .ok (.iaload, 1) := by decide +kernel
theorem dX12_about_192 : decode cX12_about 192 = .ok (.ishl, 1) := by decide +kernel
theorem dX12_about_193 : decode cX12_about 193 = .ok (.ireturn, 1) := by decide +kernel
theorem dX12_about_194 : decode cX12_about 194 = .ok (.aload_n 0, 1) := by decide +kernel
theorem dX12_about_195 : decode cX12_about 195 = .ok (.getfield 31, 3) := by decide +kernel
theorem dX12_about_198 : decode cX12_about 198 = .ok (.iload_n 1, 1) := by decide +kernel
theorem dX12_about_199 : decode cX12_about 199 = .ok (.iaload, 1) := by decide +kernel
theorem dX12_about_200 : decode cX12_about 200 = .ok (.ireturn, 1) := by decide +kernel
theorem dX12_about_201 : decode cX12_about 201 = .ok (.aload_n 0, 1) := by decide +kernel
theorem dX12_about_202 : decode cX12_about 202 = .ok (.getfield 34, 3) := by decide +kernel
theorem dX12_about_205 : decode cX12_about 205 = .ok (.iload_n 1, 1) := by decide +kernel
theorem dX12_about_206 : decode cX12_about 206 = .ok (.iaload, 1) := by decide +kernel
theorem dX12_about_207 : decode cX12_about 207 = .ok (.ireturn, 1) := by decide +kernel
theorem dX12_about_208 : decode cX12_about 208 = .ok (.aload_n 0, 1) := by decide +kernel
theorem dX12_about_209 : decode cX12_about 209 = .ok (.getfield 37, 3) := by decide +kernel
theorem dX12_about_212 : decode cX12_about 212 = .ok (.iload_n 1, 1) := by decide +kernel
theorem dX12_about_213 : decode cX12_about 213 = .ok (.iaload, 1) := by decide +kernel
theorem dX12_about_214 : decode cX12_about 214 = .ok (.ireturn, 1) := by decide +kernel
theorem dX12_parity_0 : decode cX12_parity 0 = .ok (.iconst 0, 1) := by decide +kernel
theorem dX12_parity_1 : decode cX12_parity 1 = .ok (.istore_n 1, 1) := by decide +kernel
theorem dX12_parity_2 : decode cX12_parity 2 = .ok (.iload_n 0, 1) := by decide +kernel
theorem dX12_parity_3 : decode cX12_parity 3 = .ok (.istore_n 2, 1) := by decide +kernel
theorem dX12_parity_4 : decode cX12_parity 4 = .ok (.iload_n 2, 1) := by decide +kernel
theorem dX12_parity_5 : decode cX12_parity 5 = .ok (.ifCond .eq 16, 3) := by decide +kernel
theorem dX12_parity_8 : decode cX12_parity 8 = .ok (.iload_n 1, 1) := by decide +kernel
theorem dX12_parity_9 : decode cX12_parity 9 = .ok (.iconst 1, 1) := by decide +kernel
theorem dX12_parity_10 : decode cX12_parity 10 = .ok (.ixor, 1) := by decide +kernel
theorem dX12_parity_11 : decode cX12_parity 11 = .ok (.istore_n 1, 1) := by decide +kernel
theorem dX12_parity_12 : decode cX12_parity 12 = .ok (.iload_n 2, 1) := by decide +kernel
theorem dX12_parity_13 : decode cX12_parity 13 = .ok (.iload_n 2, 1) := by decide +kernel
theorem dX12_parity_14 : decode cX12_parity 14 = .ok (.iconst 1, 1) := by decide +kernel
theorem dX12_parity_15 : decode cX12_parity 15 = .ok (.isub, 1) := by decide +kernel
theorem dX12_parity_16 : decode cX12_parity 16 = .ok (.iand, 1) := by decide +kernel
theorem dX12_parity_17 : decode cX12_parity 17 = .ok (.istore_n 2, 1) := by decide +kernel
theorem dX12_parity_18 : decode cX12_parity 18 = .ok (.goto (-14), 3) := by decide +kernel
theorem dX12_parity_21 : decode cX12_parity 21 = .ok (.iload_n 1, 1) := by decide +kernel
theorem dX12_parity_22 : decode cX12_parity 22 = .ok (.ireturn, 1) := by decide +kernel
theorem dX12_fed_0 : decode cX12_fed 0 = .ok (.iload_n 2, 1) := by decide +kernel
theorem dX12_fed_1 : decode cX12_fed 1 = .ok (.aload_n 0, 1) := by decide +kernel
theorem dX12_fed_2 : decode cX12_fed 2 = .ok (.getfield 31, 3) := by decide +kernel
theorem dX12_fed_5 : decode cX12_fed 5 = .ok (.iload_n 1, 1) := by decide +kernel
theorem dX12_fed_6 : decode cX12_fed 6 = .ok (.iaload, 1) := by decide +kernel
theorem dX12_fed_7 : decode cX12_fed 7 = .ok (.iand, 1) := by decide +kernel
theorem dX12_fed_8 : decode cX12_fed 8 = .ok (.invokestatic 164, 3) := by decide +kernel
theorem dX12_fed_11 : decode cX12_fed 11 = .ok (.ireturn, 1) := by decide +kernel
theorem dX12_next_0 : decode cX12_next 0 = .ok (.iconst 2, 1) := by decide +kernel
theorem dX12_next_1 : decode cX12_next 1 = .ok (.iload_n 2, 1) := by decide +kernel
theorem dX12_next_2 : decode cX12_next 2 = .ok (.imul, 1) := by decide +kernel
theorem dX12_next_3 : decode cX12_next 3 = .ok (.iload_n 3, 1) := by decide +kernel
theorem dX12_next_4 : decode cX12_next 4 = .ok (.aload_n 0, 1) := by decide +kernel
theorem dX12_next_5 : decode cX12_next 5 = .ok (.iload_n 1, 1) := by decide +kernel
theorem dX12_next_6 : decode cX12_next 6 = .ok (.iload_n 2, 1) := by decide +kernel
theorem dX12_next_7 : decode cX12_next 7 = .ok (.invokevirtual 167, 3) := by decide +kernel
theorem dX12_next_10 : decode cX12_next 10 = .ok (.ixor, 1) := by decide +kernel
theorem dX12_next_11 : decode cX12_next 11 = .ok (.iadd, 1) := by decide +kernel
theorem dX12_next_12 : decode cX12_next 12 = .ok (.iconst 1, 1) := by decide +kernel
theorem dX12_next_13 : decode cX12_next 13 = .ok (.aload_n 0, 1) := by decide +kernel
theorem dX12_next_14 : decode cX12_next 14 = .ok (.getfield 25, 3) := by decide +kernel
theorem dX12_next_17 : decode cX12_next 17 = .ok (.iload_n 1, 1) := by decide +kernel
theorem dX12_next_18 : decode cX12_next 18 = .ok (.iaload, 1) := by decide +kernel
theorem dX12_next_19 : decode cX12_next 19 = .ok (.ishl, 1) := by decide +kernel
theorem dX12_next_20 : decode cX12_next 20 = .ok (.iconst 1, 1) := by decide +kernel
theorem dX12_next_21 : decode cX12_next 21 = .ok (.isub, 1) := by decide +kernel
theorem dX12_next_22 : decode cX12_next 22 = .ok (.iand, 1) := by decide +kernel
theorem dX12_next_23 : decode cX12_next 23 = .ok (.ireturn, 1) := by decide +kernel
theorem dX12_out_0 : decode cX12_out 0 = .ok (.iload 4, 2) := by decide +kernel
theorem dX12_out_2 : decode cX12_out 2 = .ok (.ifCond .ne 15, 3) := by decide +kernel
theorem dX12_out_5 : decode cX12_out 5 = .ok (.aload_n 0, 1) := by decide +kernel
theorem dX12_out_6 : decode cX12_out 6 = .ok (.getfield 22, 3) := by decide +kernel
theorem dX12_out_9 : decode cX12_out 9 = .ok (.iload_n 1, 1) := by decide +kernel
theorem dX12_out_10 : decode cX12_out 10 = .ok (.iaload, 1) := by decide +kernel
theorem dX12_out_11 : decode cX12_out 11 = .ok (.iconst 1, 1) := by decide +kernel
theorem dX12_out_12 : decode cX12_out 12 = .ok (.if_icmp .lt 5, 3) := by decide +kernel
theorem dX12_out_15 : decode cX12_out 15 = .ok (.iload_n 3, 1) := by decide +kernel
theorem dX12_out_16 : decode cX12_out 16 = .ok (.ireturn, 1) := by decide +kernel
theorem dX12_out_17 : decode cX12_out 17 = .ok (.iconst 2, 1) := by decide +kernel
theorem dX12_out_18 : decode cX12_out 18 = .ok (.iload_n 2, 1) := by decide +kernel
theorem dX12_out_19 : decode cX12_out 19 = .ok (.imul, 1) := by decide +kernel
theorem dX12_out_20 : decode cX12_out 20 = .ok (.iload_n 3, 1) := by decide +kernel
theorem dX12_out_21 : decode cX12_out 21 = .ok (.aload_n 0, 1) := by decide +kernel
theorem dX12_out_22 : decode cX12_out 22 = .ok (.iload_n 1, 1) := by decide +kernel
theorem dX12_out_23 : decode cX12_out 23 = .ok (.iload_n 2, 1) := by decide +kernel
theorem dX12_out_24 : decode cX12_out 24 = .ok (.invokevirtual 167, 3) := by decide +kernel
theorem dX12_out_27 : decode cX12_out 27 = .ok (.ixor, 1) := by decide +kernel
theorem dX12_out_28 : decode cX12_out 28 = .ok (.ior, 1) := by decide +kernel
theorem dX12_out_29 : decode cX12_out 29 = .ok (.aload_n 0, 1) := by decide +kernel
theorem dX12_out_30 : decode cX12_out 30 = .ok (.getfield 40, 3) := by decide +kernel
theorem dX12_out_33 : decode cX12_out 33 = .ok (.iconst 4, 1) := by decide +kernel
theorem dX12_out_34 : decode cX12_out 34 = .ok (.iload_n 1, 1) := by decide +kernel
theorem dX12_out_35 : decode cX12_out 35 = .ok (.imul, 1) := by decide +kernel
theorem dX12_out_36 : decode cX12_out 36 = .ok (.iload 4, 2) := by decide +kernel
theorem dX12_out_38 : decode cX12_out 38 = .ok (.iadd, 1) := by decide +kernel
theorem dX12_out_39 : decode cX12_out 39 = .ok (.iaload, 1) := by decide +kernel
theorem dX12_out_40 : decode cX12_out 40 = .ok (.iand, 1) := by decide +kernel
theorem dX12_out_41 : decode cX12_out 41 = .ok (.invokestatic 164, 3) := by decide +kernel
theorem dX12_out_44 : decode cX12_out 44 = .ok (.ireturn, 1) := by decide +kernel
theorem dX12_isKept_0 : decode cX12_isKept 0 = .ok (.aload_n 0, 1) := by decide +kernel
theorem dX12_isKept_1 : decode cX12_isKept 1 = .ok (.getfield 22, 3) := by decide +kernel
theorem dX12_isKept_4 : decode cX12_isKept 4 = .ok (.iload_n 1, 1) := by decide +kernel
theorem dX12_isKept_5 : decode cX12_isKept 5 = .ok (.iaload, 1) := by decide +kernel
theorem dX12_isKept_6 : decode cX12_isKept 6 = .ok (.iconst 2, 1) := by decide +kernel
theorem dX12_isKept_7 : decode cX12_isKept 7 = .ok (.if_icmp .lt 29, 3) := by decide +kernel
theorem dX12_isKept_10 : decode cX12_isKept 10 = .ok (.aload_n 0, 1) := by decide +kernel
theorem dX12_isKept_11 : decode cX12_isKept 11 = .ok (.getfield 43, 3) := by decide +kernel
theorem dX12_isKept_14 : decode cX12_isKept 14 = .ok (.bipush 8, 2) := by decide +kernel
theorem dX12_isKept_16 : decode cX12_isKept 16 = .ok (.iload_n 1, 1) := by decide +kernel
theorem dX12_isKept_17 : decode cX12_isKept 17 = .ok (.imul, 1) := by decide +kernel
theorem dX12_isKept_18 : decode cX12_isKept 18 = .ok (.iload_n 2, 1) := by decide +kernel
theorem dX12_isKept_19 : decode cX12_isKept 19 = .ok (.aload_n 0, 1) := by decide +kernel
theorem dX12_isKept_20 : decode cX12_isKept 20 = .ok (.getfield 34, 3) := by decide +kernel
theorem dX12_isKept_23 : decode cX12_isKept 23 = .ok (.iload_n 1, 1) := by decide +kernel
theorem dX12_isKept_24 : decode cX12_isKept 24 = .ok (.iaload, 1) := by decide +kernel
theorem dX12_isKept_25 : decode cX12_isKept 25 = .ok (.irem, 1) := by decide +kernel
theorem dX12_isKept_26 : decode cX12_isKept 26 = .ok (.iadd, 1) := by decide +kernel
theorem dX12_isKept_27 : decode cX12_isKept 27 = .ok (.iaload, 1) := by decide +kernel
theorem dX12_isKept_28 : decode cX12_isKept 28 = .ok (.iload_n 3, 1) := by decide +kernel
theorem dX12_isKept_29 : decode cX12_isKept 29 = .ok (.ishr, 1) := by decide +kernel
theorem dX12_isKept_30 : decode cX12_isKept 30 = .ok (.iconst 1, 1) := by decide +kernel
theorem dX12_isKept_31 : decode cX12_isKept 31 = .ok (.iand, 1) := by decide +kernel
theorem dX12_isKept_32 : decode cX12_isKept 32 = .ok (.iconst 1, 1) := by decide +kernel
theorem dX12_isKept_33 : decode cX12_isKept 33 = .ok (.if_icmp .ne 7, 3) := by decide +kernel
theorem dX12_isKept_36 : decode cX12_isKept 36 = .ok (.iconst 1, 1) := by decide +kernel
theorem dX12_isKept_37 : decode cX12_isKept 37 = .ok (.goto 4, 3) := by decide +kernel
theorem dX12_isKept_40 : decode cX12_isKept 40 = .ok (.iconst 0, 1) := by decide +kernel
theorem dX12_isKept_41 : decode cX12_isKept 41 = .ok (.ireturn, 1) := by decide +kernel
theorem dX12_sends_0 : decode cX12_sends 0 = .ok (.iconst 0, 1) := by decide +kernel
theorem dX12_sends_1 : decode cX12_sends 1 = .ok (.istore_n 3, 1) := by decide +kernel
theorem dX12_sends_2 : decode cX12_sends 2 = .ok (.iconst 0, 1) := by decide +kernel
theorem dX12_sends_3 : decode cX12_sends 3 = .ok (.istore 4, 2) := by decide +kernel
theorem dX12_sends_5 : decode cX12_sends 5 = .ok (.iload 4, 2) := by decide +kernel
theorem dX12_sends_7 : decode cX12_sends 7 = .ok (.aload_n 0, 1) := by decide +kernel
theorem dX12_sends_8 : decode cX12_sends 8 = .ok (.iload_n 1, 1) := by decide +kernel
theorem dX12_sends_9 : decode cX12_sends 9 = .ok (.invokevirtual 148, 3) := by decide +kernel
theorem dX12_sends_12 : decode cX12_sends 12 = .ok (.if_icmp .ge 28, 3) := by decide +kernel
theorem dX12_sends_15 : decode cX12_sends 15 = .ok (.iload_n 3, 1) := by decide +kernel
theorem dX12_sends_16 : decode cX12_sends 16 = .ok (.aload_n 0, 1) := by decide +kernel
theorem dX12_sends_17 : decode cX12_sends 17 = .ok (.iload_n 1, 1) := by decide +kernel
theorem dX12_sends_18 : decode cX12_sends 18 = .ok (.iload_n 2, 1) := by decide +kernel
theorem dX12_sends_19 : decode cX12_sends 19 = .ok (.iload 4, 2) := by decide +kernel
theorem dX12_sends_21 : decode cX12_sends 21 = .ok (.invokevirtual 170, 3) := by decide +kernel
theorem dX12_sends_24 : decode cX12_sends 24 = .ok (.ifCond .eq 7, 3) := by decide +kernel
theorem dX12_sends_27 : decode cX12_sends 27 = .ok (.iconst 1, 1) := by decide +kernel
theorem dX12_sends_28 : decode cX12_sends 28 = .ok (.goto 4, 3) := by decide +kernel
theorem dX12_sends_31 : decode cX12_sends 31 = .ok (.iconst 0, 1) := by decide +kernel
theorem dX12_sends_32 : decode cX12_sends 32 = .ok (.iadd, 1) := by decide +kernel
theorem dX12_sends_33 : decode cX12_sends 33 = .ok (.istore_n 3, 1) := by decide +kernel
theorem dX12_sends_34 : decode cX12_sends 34 = .ok (.iinc 4 1, 3) := by decide +kernel
theorem dX12_sends_37 : decode cX12_sends 37 = .ok (.goto (-32), 3) := by decide +kernel
theorem dX12_sends_40 : decode cX12_sends 40 = .ok (.iload_n 3, 1) := by decide +kernel
theorem dX12_sends_41 : decode cX12_sends 41 = .ok (.ireturn, 1) := by decide +kernel
theorem dX12_steps_0 : decode cX12_steps 0 = .ok (.aload_n 0, 1) := by decide +kernel
theorem dX12_steps_1 : decode cX12_steps 1 = .ok (.getfield 22, 3) := by decide +kernel
theorem dX12_steps_4 : decode cX12_steps 4 = .ok (.iload_n 1, 1) := by decide +kernel
theorem dX12_steps_5 : decode cX12_steps 5 = .ok (.iaload, 1) := by decide +kernel
theorem dX12_steps_6 : decode cX12_steps 6 = .ok (.iconst 3, 1) := by decide +kernel
theorem dX12_steps_7 : decode cX12_steps 7 = .ok (.if_icmp .ne 14, 3) := by decide +kernel
theorem dX12_steps_10 : decode cX12_steps 10 = .ok (.iload_n 2, 1) := by decide +kernel
theorem dX12_steps_11 : decode cX12_steps 11 = .ok (.aload_n 0, 1) := by decide +kernel
theorem dX12_steps_12 : decode cX12_steps 12 = .ok (.getfield 25, 3) := by decide +kernel
theorem dX12_steps_15 : decode cX12_steps 15 = .ok (.iload_n 1, 1) := by decide +kernel
theorem dX12_steps_16 : decode cX12_steps 16 = .ok (.iaload, 1) := by decide +kernel
theorem dX12_steps_17 : decode cX12_steps 17 = .ok (.iadd, 1) := by decide +kernel
theorem dX12_steps_18 : decode cX12_steps 18 = .ok (.goto 4, 3) := by decide +kernel
theorem dX12_steps_21 : decode cX12_steps 21 = .ok (.iload_n 2, 1) := by decide +kernel
theorem dX12_steps_22 : decode cX12_steps 22 = .ok (.ireturn, 1) := by decide +kernel
theorem dX12_sentAhead_0 : decode cX12_sentAhead 0 = .ok (.iconst 0, 1) := by decide +kernel
theorem dX12_sentAhead_1 : decode cX12_sentAhead 1 = .ok (.istore_n 3, 1) := by decide +kernel
theorem dX12_sentAhead_2 : decode cX12_sentAhead 2 = .ok (.iconst 0, 1) := by decide +kernel
theorem dX12_sentAhead_3 : decode cX12_sentAhead 3 = .ok (.istore 4, 2) := by decide +kernel
theorem dX12_sentAhead_5 : decode cX12_sentAhead 5 = .ok (.iload 4, 2) := by decide +kernel
theorem dX12_sentAhead_7 : decode cX12_sentAhead 7 = .ok (.iload_n 2, 1) := by decide +kernel
theorem dX12_sentAhead_8 : decode cX12_sentAhead 8 = .ok (.if_icmp .ge 19, 3) := by decide +kernel
theorem dX12_sentAhead_11 : decode cX12_sentAhead 11 = .ok (.iload_n 3, 1) := by decide +kernel
theorem dX12_sentAhead_12 : decode cX12_sentAhead 12 = .ok (.aload_n 0, 1) := by decide +kernel
theorem dX12_sentAhead_13 : decode cX12_sentAhead 13 = .ok (.iload_n 1, 1) := by decide +kernel
theorem dX12_sentAhead_14 : decode cX12_sentAhead 14 = .ok (.iload 4, 2) := by decide +kernel
theorem dX12_sentAhead_16 : decode cX12_sentAhead 16 = .ok (.invokevirtual 174, 3) := by decide +kernel
theorem dX12_sentAhead_19 : decode cX12_sentAhead 19 = .ok (.iadd, 1) := by decide +kernel
theorem dX12_sentAhead_20 : decode cX12_sentAhead 20 = .ok (.istore_n 3, 1) := by decide +kernel
theorem dX12_sentAhead_21 : decode cX12_sentAhead 21 = .ok (.iinc 4 1, 3) := by decide +kernel
theorem dX12_sentAhead_24 : decode cX12_sentAhead 24 = .ok (.goto (-19), 3) := by decide +kernel
theorem dX12_sentAhead_27 : decode cX12_sentAhead 27 = .ok (.iload_n 3, 1) := by decide +kernel
theorem dX12_sentAhead_28 : decode cX12_sentAhead 28 = .ok (.ireturn, 1) := by decide +kernel
theorem dX12_order_0 : decode cX12_order 0 = .ok (.iload_n 3, 1) := by decide +kernel
theorem dX12_order_1 : decode cX12_order 1 = .ok (.aload_n 0, 1) := by decide +kernel
theorem dX12_order_2 : decode cX12_order 2 = .ok (.getfield 37, 3) := by decide +kernel
theorem dX12_order_5 : decode cX12_order 5 = .ok (.iload_n 1, 1) := by decide +kernel
theorem dX12_order_6 : decode cX12_order 6 = .ok (.iaload, 1) := by decide +kernel
theorem dX12_order_7 : decode cX12_order 7 = .ok (.imul, 1) := by decide +kernel
theorem dX12_order_8 : decode cX12_order 8 = .ok (.iload_n 2, 1) := by decide +kernel
theorem dX12_order_9 : decode cX12_order 9 = .ok (.irem, 1) := by decide +kernel
theorem dX12_order_10 : decode cX12_order 10 = .ok (.ireturn, 1) := by decide +kernel
theorem dX12_isOrder_0 : decode cX12_isOrder 0 = .ok (.iconst 1, 1) := by decide +kernel
theorem dX12_isOrder_1 : decode cX12_isOrder 1 = .ok (.istore_n 3, 1) := by decide +kernel
theorem dX12_isOrder_2 : decode cX12_isOrder 2 = .ok (.iconst 0, 1) := by decide +kernel
theorem dX12_isOrder_3 : decode cX12_isOrder 3 = .ok (.istore 4, 2) := by decide +kernel
theorem dX12_isOrder_5 : decode cX12_isOrder 5 = .ok (.iload 4, 2) := by decide +kernel
theorem dX12_isOrder_7 : decode cX12_isOrder 7 = .ok (.iload_n 2, 1) := by decide +kernel
theorem dX12_isOrder_8 : decode cX12_isOrder 8 = .ok (.if_icmp .ge 54, 3) := by decide +kernel
theorem dX12_isOrder_11 : decode cX12_isOrder 11 = .ok (.iconst 0, 1) := by decide +kernel
theorem dX12_isOrder_12 : decode cX12_isOrder 12 = .ok (.istore 5, 2) := by decide +kernel
theorem dX12_isOrder_14 : decode cX12_isOrder 14 = .ok (.iload 5, 2) := by decide +kernel
theorem dX12_isOrder_16 : decode cX12_isOrder 16 = .ok (.iload 4, 2) := by decide +kernel
theorem dX12_isOrder_18 : decode cX12_isOrder 18 = .ok (.if_icmp .ge 38, 3) := by decide +kernel
theorem dX12_isOrder_21 : decode cX12_isOrder 21 = .ok (.iload_n 3, 1) := by decide +kernel
theorem dX12_isOrder_22 : decode cX12_isOrder 22 = .ok (.ifCond .eq 26, 3) := by decide +kernel
theorem dX12_isOrder_25 : decode cX12_isOrder 25 = .ok (.aload_n 0, 1) := by decide +kernel
theorem dX12_isOrder_26 : decode cX12_isOrder 26 = .ok (.iload_n 1, 1) := by decide +kernel
theorem dX12_isOrder_27 : decode cX12_isOrder 27 = .ok (.iload_n 2, 1) := by decide +kernel
theorem dX12_isOrder_28 : decode cX12_isOrder 28 = .ok (.iload 4, 2) := by decide +kernel
theorem dX12_isOrder_30 : decode cX12_isOrder 30 = .ok (.invokevirtual 177, 3) := by decide +kernel
theorem dX12_isOrder_33 : decode cX12_isOrder 33 = .ok (.aload_n 0, 1) := by decide +kernel
theorem dX12_isOrder_34 : decode cX12_isOrder 34 = .ok (.iload_n 1, 1) := by decide +kernel
theorem dX12_isOrder_35 : decode cX12_isOrder 35 = .ok (.iload_n 2, 1) := by decide +kernel
theorem dX12_isOrder_36 : decode cX12_isOrder 36 = .ok (.iload 5, 2) := by decide +kernel
theorem dX12_isOrder_38 : decode cX12_isOrder 38 = .ok (.invokevirtual 177, 3) := by decide +kernel
theorem dX12_isOrder_41 : decode cX12_isOrder 41 = .ok (.if_icmp .eq 7, 3) := by decide +kernel
theorem dX12_isOrder_44 : decode cX12_isOrder 44 = .ok (.iconst 1, 1) := by decide +kernel
theorem dX12_isOrder_45 : decode cX12_isOrder 45 = .ok (.goto 4, 3) := by decide +kernel
theorem dX12_isOrder_48 : decode cX12_isOrder 48 = .ok (.iconst 0, 1) := by decide +kernel
theorem dX12_isOrder_49 : decode cX12_isOrder 49 = .ok (.istore_n 3, 1) := by decide +kernel
theorem dX12_isOrder_50 : decode cX12_isOrder 50 = .ok (.iinc 5 1, 3) := by decide +kernel
theorem dX12_isOrder_53 : decode cX12_isOrder 53 = .ok (.goto (-39), 3) := by decide +kernel
theorem dX12_isOrder_56 : decode cX12_isOrder 56 = .ok (.iinc 4 1, 3) := by decide +kernel
theorem dX12_isOrder_59 : decode cX12_isOrder 59 = .ok (.goto (-54), 3) := by decide +kernel
theorem dX12_isOrder_62 : decode cX12_isOrder 62 = .ok (.iload_n 3, 1) := by decide +kernel
theorem dX12_isOrder_63 : decode cX12_isOrder 63 = .ok (.ireturn, 1) := by decide +kernel
theorem dX12_ends_0 : decode cX12_ends 0 = .ok (.iload_n 3, 1) := by decide +kernel
theorem dX12_ends_1 : decode cX12_ends 1 = .ok (.istore 4, 2) := by decide +kernel
theorem dX12_ends_3 : decode cX12_ends 3 = .ok (.iconst 0, 1) := by decide +kernel
theorem dX12_ends_4 : decode cX12_ends 4 = .ok (.istore 5, 2) := by decide +kernel
theorem dX12_ends_6 : decode cX12_ends 6 = .ok (.iload 5, 2) := by decide +kernel
theorem dX12_ends_8 : decode cX12_ends 8 = .ok (.iload_n 2, 1) := by decide +kernel
theorem dX12_ends_9 : decode cX12_ends 9 = .ok (.if_icmp .ge 25, 3) := by decide +kernel
theorem dX12_ends_12 : decode cX12_ends 12 = .ok (.aload_n 0, 1) := by decide +kernel
theorem dX12_ends_13 : decode cX12_ends 13 = .ok (.iload_n 1, 1) := by decide +kernel
theorem dX12_ends_14 : decode cX12_ends 14 = .ok (.iload 4, 2) := by decide +kernel
theorem dX12_ends_16 : decode cX12_ends 16 = .ok (.aload_n 0, 1) := by decide +kernel
theorem dX12_ends_17 : decode cX12_ends 17 = .ok (.getfield 92, 3) := by decide +kernel
theorem dX12_ends_20 : decode cX12_ends 20 = .ok (.iload 5, 2) := by decide +kernel
theorem dX12_ends_22 : decode cX12_ends 22 = .ok (.iaload, 1) := by decide +kernel
theorem dX12_ends_23 : decode cX12_ends 23 = .ok (.invokevirtual 181, 3) := by decide +kernel
theorem dX12_ends_26 : decode cX12_ends 26 = .ok (.istore 4, 2) := by decide +kernel
theorem dX12_ends_28 : decode cX12_ends 28 = .ok (.iinc 5 1, 3) := by decide +kernel
theorem dX12_ends_31 : decode cX12_ends 31 = .ok (.goto (-25), 3) := by decide +kernel
theorem dX12_ends_34 : decode cX12_ends 34 = .ok (.iload 4, 2) := by decide +kernel
theorem dX12_ends_36 : decode cX12_ends 36 = .ok (.ireturn, 1) := by decide +kernel
theorem dX12_sent_0 : decode cX12_sent 0 = .ok (.iconst 0, 1) := by decide +kernel
theorem dX12_sent_1 : decode cX12_sent 1 = .ok (.istore_n 3, 1) := by decide +kernel
theorem dX12_sent_2 : decode cX12_sent 2 = .ok (.aload_n 0, 1) := by decide +kernel
theorem dX12_sent_3 : decode cX12_sent 3 = .ok (.getfield 22, 3) := by decide +kernel
theorem dX12_sent_6 : decode cX12_sent 6 = .ok (.iload_n 1, 1) := by decide +kernel
theorem dX12_sent_7 : decode cX12_sent 7 = .ok (.iaload, 1) := by decide +kernel
theorem dX12_sent_8 : decode cX12_sent 8 = .ok (.iconst 4, 1) := by decide +kernel
theorem dX12_sent_9 : decode cX12_sent 9 = .ok (.if_icmp .ne 46, 3) := by decide +kernel
theorem dX12_sent_12 : decode cX12_sent 12 = .ok (.iload_n 3, 1) := by decide +kernel
theorem dX12_sent_13 : decode cX12_sent 13 = .ok (.iconst 1, 1) := by decide +kernel
theorem dX12_sent_14 : decode cX12_sent 14 = .ok (.aload_n 0, 1) := by decide +kernel
theorem dX12_sent_15 : decode cX12_sent 15 = .ok (.getfield 25, 3) := by decide +kernel
theorem dX12_sent_18 : decode cX12_sent 18 = .ok (.iload_n 1, 1) := by decide +kernel
theorem dX12_sent_19 : decode cX12_sent 19 = .ok (.iaload, 1) := by decide +kernel
theorem dX12_sent_20 : decode cX12_sent 20 = .ok (.ishl, 1) := by decide +kernel
theorem dX12_sent_21 : decode cX12_sent 21 = .ok (.if_icmp .ge 20, 3) := by decide +kernel
theorem dX12_sent_24 : decode cX12_sent 24 = .ok (.aload_n 0, 1) := by decide +kernel
theorem dX12_sent_25 : decode cX12_sent 25 = .ok (.iload_n 1, 1) := by decide +kernel
theorem dX12_sent_26 : decode cX12_sent 26 = .ok (.iload_n 2, 1) := by decide +kernel
theorem dX12_sent_27 : decode cX12_sent 27 = .ok (.iload_n 3, 1) := by decide +kernel
theorem dX12_sent_28 : decode cX12_sent 28 = .ok (.invokevirtual 184, 3) := by decide +kernel
theorem dX12_sent_31 : decode cX12_sent 31 = .ok (.iload_n 3, 1) := by decide +kernel
theorem dX12_sent_32 : decode cX12_sent 32 = .ok (.if_icmp .eq 9, 3) := by decide +kernel
theorem dX12_sent_35 : decode cX12_sent 35 = .ok (.iinc 3 1, 3) := by decide +kernel
theorem dX12_sent_38 : decode cX12_sent 38 = .ok (.goto (-26), 3) := by decide +kernel
theorem dX12_sent_41 : decode cX12_sent 41 = .ok (.iload_n 3, 1) := by decide +kernel
theorem dX12_sent_42 : decode cX12_sent 42 = .ok (.iconst 1, 1) := by decide +kernel
theorem dX12_sent_43 : decode cX12_sent 43 = .ok (.aload_n 0, 1) := by decide +kernel
theorem dX12_sent_44 : decode cX12_sent 44 = .ok (.getfield 25, 3) := by decide +kernel
theorem dX12_sent_47 : decode cX12_sent 47 = .ok (.iload_n 1, 1) := by decide +kernel
theorem dX12_sent_48 : decode cX12_sent 48 = .ok (.iaload, 1) := by decide +kernel
theorem dX12_sent_49 : decode cX12_sent 49 = .ok (.ishl, 1) := by decide +kernel
theorem dX12_sent_50 : decode cX12_sent 50 = .ok (.if_icmp .ne 5, 3) := by decide +kernel
theorem dX12_sent_53 : decode cX12_sent 53 = .ok (.iconst (-1), 1) := by decide +kernel
theorem dX12_sent_54 : decode cX12_sent 54 = .ok (.ireturn, 1) := by decide +kernel
theorem dX12_sent_55 : decode cX12_sent 55 = .ok (.aload_n 0, 1) := by decide +kernel
theorem dX12_sent_56 : decode cX12_sent 56 = .ok (.getfield 22, 3) := by decide +kernel
theorem dX12_sent_59 : decode cX12_sent 59 = .ok (.iload_n 1, 1) := by decide +kernel
theorem dX12_sent_60 : decode cX12_sent 60 = .ok (.iaload, 1) := by decide +kernel
theorem dX12_sent_61 : decode cX12_sent 61 = .ok (.iconst 5, 1) := by decide +kernel
theorem dX12_sent_62 : decode cX12_sent 62 = .ok (.if_icmp .ne 14, 3) := by decide +kernel
theorem dX12_sent_65 : decode cX12_sent 65 = .ok (.aload_n 0, 1) := by decide +kernel
theorem dX12_sent_66 : decode cX12_sent 66 = .ok (.iload_n 1, 1) := by decide +kernel
theorem dX12_sent_67 : decode cX12_sent 67 = .ok (.iload_n 2, 1) := by decide +kernel
theorem dX12_sent_68 : decode cX12_sent 68 = .ok (.invokevirtual 187, 3) := by decide +kernel
theorem dX12_sent_71 : decode cX12_sent 71 = .ok (.ifCond .ne 5, 3) := by decide +kernel
theorem dX12_sent_74 : decode cX12_sent 74 = .ok (.iconst (-1), 1) := by decide +kernel
theorem dX12_sent_75 : decode cX12_sent 75 = .ok (.ireturn, 1) := by decide +kernel
theorem dX12_sent_76 : decode cX12_sent 76 = .ok (.iconst 0, 1) := by decide +kernel
theorem dX12_sent_77 : decode cX12_sent 77 = .ok (.istore 4, 2) := by decide +kernel
theorem dX12_sent_79 : decode cX12_sent 79 = .ok (.iconst 0, 1) := by decide +kernel
theorem dX12_sent_80 : decode cX12_sent 80 = .ok (.istore 5, 2) := by decide +kernel
theorem dX12_sent_82 : decode cX12_sent 82 = .ok (.iconst 0, 1) := by decide +kernel
theorem dX12_sent_83 : decode cX12_sent 83 = .ok (.istore 6, 2) := by decide +kernel
theorem dX12_sent_85 : decode cX12_sent 85 = .ok (.iload 6, 2) := by decide +kernel
theorem dX12_sent_87 : decode cX12_sent 87 = .ok (.aload_n 0, 1) := by decide +kernel
theorem dX12_sent_88 : decode cX12_sent 88 = .ok (.iload_n 1, 1) := by decide +kernel
theorem dX12_sent_89 : decode cX12_sent 89 = .ok (.iload_n 2, 1) := by decide +kernel
theorem dX12_sent_90 : decode cX12_sent 90 = .ok (.invokevirtual 190, 3) := by decide +kernel
theorem dX12_sent_93 : decode cX12_sent 93 = .ok (.if_icmp .ge 201, 3) := by decide +kernel
theorem dX12_sent_96 : decode cX12_sent 96 = .ok (.iload 6, 2) := by decide +kernel
theorem dX12_sent_98 : decode cX12_sent 98 = .ok (.iload_n 2, 1) := by decide +kernel
theorem dX12_sent_99 : decode cX12_sent 99 = .ok (.if_icmp .ge 13, 3) := by decide +kernel
theorem dX12_sent_102 : decode cX12_sent 102 = .ok (.aload_n 0, 1) := by decide +kernel
theorem dX12_sent_103 : decode cX12_sent 103 = .ok (.getfield 92, 3) := by decide +kernel
theorem dX12_sent_106 : decode cX12_sent 106 = .ok (.iload 6, 2) := by decide +kernel
theorem dX12_sent_108 : decode cX12_sent 108 = .ok (.iaload, 1) := by decide +kernel
theorem dX12_sent_109 : decode cX12_sent 109 = .ok (.goto 9, 3) := by decide +kernel
theorem dX12_sent_112 : decode cX12_sent 112 = .ok (.aload_n 0, 1) := by decide +kernel
theorem dX12_sent_113 : decode cX12_sent 113 = .ok (.iload_n 1, 1) := by decide +kernel
theorem dX12_sent_114 : decode cX12_sent 114 = .ok (.iload_n 3, 1) := by decide +kernel
theorem dX12_sent_115 : decode cX12_sent 115 = .ok (.invokevirtual 167, 3) := by decide +kernel
theorem dX12_sent_118 : decode cX12_sent 118 = .ok (.istore 7, 2) := by decide +kernel
theorem dX12_sent_120 : decode cX12_sent 120 = .ok (.iconst 0, 1) := by decide +kernel
theorem dX12_sent_121 : decode cX12_sent 121 = .ok (.istore 8, 2) := by decide +kernel
theorem dX12_sent_123 : decode cX12_sent 123 = .ok (.iload 8, 2) := by decide +kernel
theorem dX12_sent_125 : decode cX12_sent 125 = .ok (.aload_n 0, 1) := by decide +kernel
theorem dX12_sent_126 : decode cX12_sent 126 = .ok (.getfield 28, 3) := by decide +kernel
theorem dX12_sent_129 : decode cX12_sent 129 = .ok (.iload_n 1, 1) := by decide +kernel
theorem dX12_sent_130 : decode cX12_sent 130 = .ok (.iaload, 1) := by decide +kernel
theorem dX12_sent_131 : decode cX12_sent 131 = .ok (.if_icmp .ge 44, 3) := by decide +kernel
theorem dX12_sent_134 : decode cX12_sent 134 = .ok (.aload_n 0, 1) := by decide +kernel
theorem dX12_sent_135 : decode cX12_sent 135 = .ok (.iload_n 1, 1) := by decide +kernel
theorem dX12_sent_136 : decode cX12_sent 136 = .ok (.iload 6, 2) := by decide +kernel
theorem dX12_sent_138 : decode cX12_sent 138 = .ok (.iload 8, 2) := by decide +kernel
theorem dX12_sent_140 : decode cX12_sent 140 = .ok (.invokevirtual 170, 3) := by decide +kernel
theorem dX12_sent_143 : decode cX12_sent 143 = .ok (.ifCond .ne 6, 3) := by decide +kernel
theorem dX12_sent_146 : decode cX12_sent 146 = .ok (.goto 23, 3) := by decide +kernel
theorem dX12_sent_149 : decode cX12_sent 149 = .ok (.aload_n 0, 1) := by decide +kernel
theorem dX12_sent_150 : decode cX12_sent 150 = .ok (.getfield 89, 3) := by decide +kernel
theorem dX12_sent_153 : decode cX12_sent 153 = .ok (.iload 5, 2) := by decide +kernel
theorem dX12_sent_155 : decode cX12_sent 155 = .ok (.aload_n 0, 1) := by decide +kernel
theorem dX12_sent_156 : decode cX12_sent 156 = .ok (.iload_n 1, 1) := by decide +kernel
theorem dX12_sent_157 : decode cX12_sent 157 = .ok (.iload_n 3, 1) := by decide +kernel
theorem dX12_sent_158 : decode cX12_sent 158 = .ok (.iload 7, 2) := by decide +kernel
theorem dX12_sent_160 : decode cX12_sent 160 = .ok (.iload 8, 2) := by decide +kernel
theorem dX12_sent_162 : decode cX12_sent 162 = .ok (.invokevirtual 193, 3) := by decide +kernel
theorem dX12_sent_165 : decode cX12_sent 165 = .ok (.iastore, 1) := by decide +kernel
theorem dX12_sent_166 : decode cX12_sent 166 = .ok (.iinc 5 1, 3) := by decide +kernel
theorem dX12_sent_169 : decode cX12_sent 169 = .ok (.iinc 8 1, 3) := by decide +kernel
theorem dX12_sent_172 : decode cX12_sent 172 = .ok (.goto (-49), 3) := by decide +kernel
theorem dX12_sent_175 : decode cX12_sent 175 = .ok (.aload_n 0, 1) := by decide +kernel
theorem dX12_sent_176 : decode cX12_sent 176 = .ok (.iload_n 1, 1) := by decide +kernel
theorem dX12_sent_177 : decode cX12_sent 177 = .ok (.iload_n 3, 1) := by decide +kernel
theorem dX12_sent_178 : decode cX12_sent 178 = .ok (.iload 7, 2) := by decide +kernel
theorem dX12_sent_180 : decode cX12_sent 180 = .ok (.invokevirtual 181, 3) := by decide +kernel
theorem dX12_sent_183 : decode cX12_sent 183 = .ok (.istore_n 3, 1) := by decide +kernel
theorem dX12_sent_184 : decode cX12_sent 184 = .ok (.aload_n 0, 1) := by decide +kernel
theorem dX12_sent_185 : decode cX12_sent 185 = .ok (.getfield 22, 3) := by decide +kernel
theorem dX12_sent_188 : decode cX12_sent 188 = .ok (.iload_n 1, 1) := by decide +kernel
theorem dX12_sent_189 : decode cX12_sent 189 = .ok (.iaload, 1) := by decide +kernel
theorem dX12_sent_190 : decode cX12_sent 190 = .ok (.iconst 5, 1) := by decide +kernel
theorem dX12_sent_191 : decode cX12_sent 191 = .ok (.if_icmp .eq 6, 3) := by decide +kernel
theorem dX12_sent_194 : decode cX12_sent 194 = .ok (.goto 94, 3) := by decide +kernel
theorem dX12_sent_197 : decode cX12_sent 197 = .ok (.aload_n 0, 1) := by decide +kernel
theorem dX12_sent_198 : decode cX12_sent 198 = .ok (.getfield 92, 3) := by decide +kernel
theorem dX12_sent_201 : decode cX12_sent 201 = .ok (.aload_n 0, 1) := by decide +kernel
theorem dX12_sent_202 : decode cX12_sent 202 = .ok (.iload_n 1, 1) := by decide +kernel
theorem dX12_sent_203 : decode cX12_sent 203 = .ok (.iload_n 2, 1) := by decide +kernel
theorem dX12_sent_204 : decode cX12_sent 204 = .ok (.iload 6, 2) := by decide +kernel
theorem dX12_sent_206 : decode cX12_sent 206 = .ok (.invokevirtual 177, 3) := by decide +kernel
theorem dX12_sent_209 : decode cX12_sent 209 = .ok (.iaload, 1) := by decide +kernel
theorem dX12_sent_210 : decode cX12_sent 210 = .ok (.istore 8, 2) := by decide +kernel
theorem dX12_sent_212 : decode cX12_sent 212 = .ok (.iconst 1, 1) := by decide +kernel
theorem dX12_sent_213 : decode cX12_sent 213 = .ok (.istore 9, 2) := by decide +kernel
theorem dX12_sent_215 : decode cX12_sent 215 = .ok (.iload 9, 2) := by decide +kernel
theorem dX12_sent_217 : decode cX12_sent 217 = .ok (.aload_n 0, 1) := by decide +kernel
theorem dX12_sent_218 : decode cX12_sent 218 = .ok (.getfield 28, 3) := by decide +kernel
theorem dX12_sent_221 : decode cX12_sent 221 = .ok (.iload_n 1, 1) := by decide +kernel
theorem dX12_sent_222 : decode cX12_sent 222 = .ok (.iaload, 1) := by decide +kernel
theorem dX12_sent_223 : decode cX12_sent 223 = .ok (.if_icmp .ge 54, 3) := by decide +kernel
theorem dX12_sent_226 : decode cX12_sent 226 = .ok (.aload_n 0, 1) := by decide +kernel
theorem dX12_sent_227 : decode cX12_sent 227 = .ok (.iload_n 1, 1) := by decide +kernel
theorem dX12_sent_228 : decode cX12_sent 228 = .ok (.iload 6, 2) := by decide +kernel
theorem dX12_sent_230 : decode cX12_sent 230 = .ok (.aload_n 0, 1) := by decide +kernel
theorem dX12_sent_231 : decode cX12_sent 231 = .ok (.getfield 28, 3) := by decide +kernel
theorem dX12_sent_234 : decode cX12_sent 234 = .ok (.iload_n 1, 1) := by decide +kernel
theorem dX12_sent_235 : decode cX12_sent 235 = .ok (.iaload, 1) := by decide +kernel
theorem dX12_sent_236 : decode cX12_sent 236 = .ok (.iload 9, 2) := by decide +kernel
theorem dX12_sent_238 : decode cX12_sent 238 = .ok (.iadd, 1) := by decide +kernel
theorem dX12_sent_239 : decode cX12_sent 239 = .ok (.iconst 1, 1) := by decide +kernel
theorem dX12_sent_240 : decode cX12_sent 240 = .ok (.isub, 1) := by decide +kernel
theorem dX12_sent_241 : decode cX12_sent 241 = .ok (.invokevirtual 170, 3) := by decide +kernel
theorem dX12_sent_244 : decode cX12_sent 244 = .ok (.ifCond .ne 6, 3) := by decide +kernel
theorem dX12_sent_247 : decode cX12_sent 247 = .ok (.goto 24, 3) := by decide +kernel
theorem dX12_sent_250 : decode cX12_sent 250 = .ok (.aload_n 0, 1) := by decide +kernel
theorem dX12_sent_251 : decode cX12_sent 251 = .ok (.getfield 89, 3) := by decide +kernel
theorem dX12_sent_254 : decode cX12_sent 254 = .ok (.iload 5, 2) := by decide +kernel
theorem dX12_sent_256 : decode cX12_sent 256 = .ok (.aload_n 0, 1) := by decide +kernel
theorem dX12_sent_257 : decode cX12_sent 257 = .ok (.iload_n 1, 1) := by decide +kernel
theorem dX12_sent_258 : decode cX12_sent 258 = .ok (.iload 4, 2) := by decide +kernel
theorem dX12_sent_260 : decode cX12_sent 260 = .ok (.iload 8, 2) := by decide +kernel
theorem dX12_sent_262 : decode cX12_sent 262 = .ok (.iload 9, 2) := by decide +kernel
theorem dX12_sent_264 : decode cX12_sent 264 = .ok (.invokevirtual 193, 3) := by decide +kernel
theorem dX12_sent_267 : decode cX12_sent 267 = .ok (.iastore, 1) := by decide +kernel
theorem dX12_sent_268 : decode cX12_sent 268 = .ok (.iinc 5 1, 3) := by decide +kernel
theorem dX12_sent_271 : decode cX12_sent 271 = .ok (.iinc 9 1, 3) := by decide +kernel
theorem dX12_sent_274 : decode cX12_sent 274 = .ok (.goto (-59), 3) := by decide +kernel
theorem dX12_sent_277 : decode cX12_sent 277 = .ok (.aload_n 0, 1) := by decide +kernel
theorem dX12_sent_278 : decode cX12_sent 278 = .ok (.iload_n 1, 1) := by decide +kernel
theorem dX12_sent_279 : decode cX12_sent 279 = .ok (.iload 4, 2) := by decide +kernel
theorem dX12_sent_281 : decode cX12_sent 281 = .ok (.iload 8, 2) := by decide +kernel
theorem dX12_sent_283 : decode cX12_sent 283 = .ok (.invokevirtual 181, 3) := by decide +kernel
theorem dX12_sent_286 : decode cX12_sent 286 = .ok (.istore 4, 2) := by decide +kernel
theorem dX12_sent_288 : decode cX12_sent 288 = .ok (.iinc 6 1, 3) := by decide +kernel
theorem dX12_sent_291 : decode cX12_sent 291 = .ok (.goto (-206), 3) := by decide +kernel
theorem dX12_sent_294 : decode cX12_sent 294 = .ok (.iload 5, 2) := by decide +kernel
theorem dX12_sent_296 : decode cX12_sent 296 = .ok (.ireturn, 1) := by decide +kernel
theorem dX12_takes_0 : decode cX12_takes 0 = .ok (.iconst 0, 1) := by decide +kernel
theorem dX12_takes_1 : decode cX12_takes 1 = .ok (.istore_n 3, 1) := by decide +kernel
theorem dX12_takes_2 : decode cX12_takes 2 = .ok (.iload_n 3, 1) := by decide +kernel
theorem dX12_takes_3 : decode cX12_takes 3 = .ok (.iload_n 2, 1) := by decide +kernel
theorem dX12_takes_4 : decode cX12_takes 4 = .ok (.if_icmp .ge 43, 3) := by decide +kernel
theorem dX12_takes_7 : decode cX12_takes 7 = .ok (.aload_n 0, 1) := by decide +kernel
theorem dX12_takes_8 : decode cX12_takes 8 = .ok (.getfield 92, 3) := by decide +kernel
theorem dX12_takes_11 : decode cX12_takes 11 = .ok (.iload_n 3, 1) := by decide +kernel
theorem dX12_takes_12 : decode cX12_takes 12 = .ok (.iload_n 3, 1) := by decide +kernel
theorem dX12_takes_13 : decode cX12_takes 13 = .ok (.aload_n 0, 1) := by decide +kernel
theorem dX12_takes_14 : decode cX12_takes 14 = .ok (.getfield 7, 3) := by decide +kernel
theorem dX12_takes_17 : decode cX12_takes 17 = .ok (.iload_n 1, 1) := by decide +kernel
theorem dX12_takes_18 : decode cX12_takes 18 = .ok (.iaload, 1) := by decide +kernel
theorem dX12_takes_19 : decode cX12_takes 19 = .ok (.if_icmp .ge 20, 3) := by decide +kernel
theorem dX12_takes_22 : decode cX12_takes 22 = .ok (.aload_n 0, 1) := by decide +kernel
theorem dX12_takes_23 : decode cX12_takes 23 = .ok (.getfield 13, 3) := by decide +kernel
theorem dX12_takes_26 : decode cX12_takes 26 = .ok (.sipush 600, 3) := by decide +kernel
theorem dX12_takes_29 : decode cX12_takes 29 = .ok (.iload_n 1, 1) := by decide +kernel
theorem dX12_takes_30 : decode cX12_takes 30 = .ok (.imul, 1) := by decide +kernel
theorem dX12_takes_31 : decode cX12_takes 31 = .ok (.iload_n 3, 1) := by decide +kernel
theorem dX12_takes_32 : decode cX12_takes 32 = .ok (.iadd, 1) := by decide +kernel
theorem dX12_takes_33 : decode cX12_takes 33 = .ok (.iaload, 1) := by decide +kernel
theorem dX12_takes_34 : decode cX12_takes 34 = .ok (.iconst 1, 1) := by decide +kernel
theorem dX12_takes_35 : decode cX12_takes 35 = .ok (.iand, 1) := by decide +kernel
theorem dX12_takes_36 : decode cX12_takes 36 = .ok (.goto 4, 3) := by decide +kernel
theorem dX12_takes_39 : decode cX12_takes 39 = .ok (.iconst 0, 1) := by decide +kernel
theorem dX12_takes_40 : decode cX12_takes 40 = .ok (.iastore, 1) := by decide +kernel
theorem dX12_takes_41 : decode cX12_takes 41 = .ok (.iinc 3 1, 3) := by decide +kernel
theorem dX12_takes_44 : decode cX12_takes 44 = .ok (.goto (-42), 3) := by decide +kernel
theorem dX12_takes_47 : decode cX12_takes 47 = .ok (.return_, 1) := by decide +kernel
theorem dX12_isN_0 : decode cX12_isN 0 = .ok (.aload_n 0, 1) := by decide +kernel
theorem dX12_isN_1 : decode cX12_isN 1 = .ok (.iload_n 1, 1) := by decide +kernel
theorem dX12_isN_2 : decode cX12_isN 2 = .ok (.iconst 1, 1) := by decide +kernel
theorem dX12_isN_3 : decode cX12_isN 3 = .ok (.if_icmp .lt 14, 3) := by decide +kernel
theorem dX12_isN_6 : decode cX12_isN 6 = .ok (.iload_n 1, 1) := by decide +kernel
theorem dX12_isN_7 : decode cX12_isN 7 = .ok (.sipush 200, 3) := by decide +kernel
theorem dX12_isN_10 : decode cX12_isN 10 = .ok (.if_icmp .gt 7, 3) := by decide +kernel
theorem dX12_isN_13 : decode cX12_isN 13 = .ok (.iconst 1, 1) := by decide +kernel
theorem dX12_isN_14 : decode cX12_isN 14 = .ok (.goto 4, 3) := by decide +kernel
theorem dX12_isN_17 : decode cX12_isN 17 = .ok (.iconst 0, 1) := by decide +kernel
theorem dX12_isN_18 : decode cX12_isN 18 = .ok (.iload_n 2, 1) := by decide +kernel
theorem dX12_isN_19 : decode cX12_isN 19 = .ok (.invokevirtual 133, 3) := by decide +kernel
theorem dX12_isN_22 : decode cX12_isN 22 = .ok (.ireturn, 1) := by decide +kernel
theorem dX12_send_0 : decode cX12_send 0 = .ok (.aload_n 0, 1) := by decide +kernel
theorem dX12_send_1 : decode cX12_send 1 = .ok (.iload_n 1, 1) := by decide +kernel
theorem dX12_send_2 : decode cX12_send 2 = .ok (.invokevirtual 152, 3) := by decide +kernel
theorem dX12_send_5 : decode cX12_send 5 = .ok (.ifCond .eq 31, 3) := by decide +kernel
theorem dX12_send_8 : decode cX12_send 8 = .ok (.aload_n 0, 1) := by decide +kernel
theorem dX12_send_9 : decode cX12_send 9 = .ok (.iload_n 2, 1) := by decide +kernel
theorem dX12_send_10 : decode cX12_send 10 = .ok (.iconst 1, 1) := by decide +kernel
theorem dX12_send_11 : decode cX12_send 11 = .ok (.invokevirtual 137, 3) := by decide +kernel
theorem dX12_send_14 : decode cX12_send 14 = .ok (.ifCond .eq 22, 3) := by decide +kernel
theorem dX12_send_17 : decode cX12_send 17 = .ok (.aload_n 0, 1) := by decide +kernel
theorem dX12_send_18 : decode cX12_send 18 = .ok (.iload 4, 2) := by decide +kernel
theorem dX12_send_20 : decode cX12_send 20 = .ok (.iconst 1, 1) := by decide +kernel
theorem dX12_send_21 : decode cX12_send 21 = .ok (.invokevirtual 137, 3) := by decide +kernel
theorem dX12_send_24 : decode cX12_send 24 = .ok (.ifCond .eq 12, 3) := by decide +kernel
theorem dX12_send_27 : decode cX12_send 27 = .ok (.aload_n 0, 1) := by decide +kernel
theorem dX12_send_28 : decode cX12_send 28 = .ok (.iload_n 3, 1) := by decide +kernel
theorem dX12_send_29 : decode cX12_send 29 = .ok (.iconst 2, 1) := by decide +kernel
theorem dX12_send_30 : decode cX12_send 30 = .ok (.invokevirtual 197, 3) := by decide +kernel
theorem dX12_send_33 : decode cX12_send 33 = .ok (.ifCond .ne 5, 3) := by decide +kernel
theorem dX12_send_36 : decode cX12_send 36 = .ok (.iconst 0, 1) := by decide +kernel
theorem dX12_send_37 : decode cX12_send 37 = .ok (.ireturn, 1) := by decide +kernel
theorem dX12_send_38 : decode cX12_send 38 = .ok (.aload_n 0, 1) := by decide +kernel
theorem dX12_send_39 : decode cX12_send 39 = .ok (.iload_n 2, 1) := by decide +kernel
theorem dX12_send_40 : decode cX12_send 40 = .ok (.iload_n 3, 1) := by decide +kernel
theorem dX12_send_41 : decode cX12_send 41 = .ok (.invokevirtual 200, 3) := by decide +kernel
theorem dX12_send_44 : decode cX12_send 44 = .ok (.aload_n 0, 1) := by decide +kernel
theorem dX12_send_45 : decode cX12_send 45 = .ok (.iload_n 1, 1) := by decide +kernel
theorem dX12_send_46 : decode cX12_send 46 = .ok (.iload_n 3, 1) := by decide +kernel
theorem dX12_send_47 : decode cX12_send 47 = .ok (.invokevirtual 204, 3) := by decide +kernel
theorem dX12_send_50 : decode cX12_send 50 = .ok (.istore 5, 2) := by decide +kernel
theorem dX12_send_52 : decode cX12_send 52 = .ok (.iload 5, 2) := by decide +kernel
theorem dX12_send_54 : decode cX12_send 54 = .ok (.iconst (-1), 1) := by decide +kernel
theorem dX12_send_55 : decode cX12_send 55 = .ok (.if_icmp .ne 5, 3) := by decide +kernel
theorem dX12_send_58 : decode cX12_send 58 = .ok (.iconst (-1), 1) := by decide +kernel
theorem dX12_send_59 : decode cX12_send 59 = .ok (.ireturn, 1) := by decide +kernel
theorem dX12_send_60 : decode cX12_send 60 = .ok (.iload 5, 2) := by decide +kernel
theorem dX12_send_62 : decode cX12_send 62 = .ok (.sipush 600, 3) := by decide +kernel
theorem dX12_send_65 : decode cX12_send 65 = .ok (.if_icmp .le 6, 3) := by decide +kernel
theorem dX12_send_68 : decode cX12_send 68 = .ok (.bipush (-2), 2) := by decide +kernel
theorem dX12_send_70 : decode cX12_send 70 = .ok (.ireturn, 1) := by decide +kernel
theorem dX12_send_71 : decode cX12_send 71 = .ok (.aload_n 0, 1) := by decide +kernel
theorem dX12_send_72 : decode cX12_send 72 = .ok (.getfield 7, 3) := by decide +kernel
theorem dX12_send_75 : decode cX12_send 75 = .ok (.iload 4, 2) := by decide +kernel
theorem dX12_send_77 : decode cX12_send 77 = .ok (.iload 5, 2) := by decide +kernel
theorem dX12_send_79 : decode cX12_send 79 = .ok (.iastore, 1) := by decide +kernel
theorem dX12_send_80 : decode cX12_send 80 = .ok (.iconst 0, 1) := by decide +kernel
theorem dX12_send_81 : decode cX12_send 81 = .ok (.istore 6, 2) := by decide +kernel
theorem dX12_send_83 : decode cX12_send 83 = .ok (.iload 6, 2) := by decide +kernel
theorem dX12_send_85 : decode cX12_send 85 = .ok (.sipush 600, 3) := by decide +kernel
theorem dX12_send_88 : decode cX12_send 88 = .ok (.if_icmp .ge 52, 3) := by decide +kernel
theorem dX12_send_91 : decode cX12_send 91 = .ok (.aload_n 0, 1) := by decide +kernel
theorem dX12_send_92 : decode cX12_send 92 = .ok (.getfield 13, 3) := by decide +kernel
theorem dX12_send_95 : decode cX12_send 95 = .ok (.sipush 600, 3) := by decide +kernel
theorem dX12_send_98 : decode cX12_send 98 = .ok (.iload 4, 2) := by decide +kernel
theorem dX12_send_100 : decode cX12_send 100 = .ok (.imul, 1) := by decide +kernel
theorem dX12_send_101 : decode cX12_send 101 = .ok (.iload 6, 2) := by decide +kernel
theorem dX12_send_103 : decode cX12_send 103 = .ok (.iadd, 1) := by decide +kernel
theorem dX12_send_104 : decode cX12_send 104 = .ok (.iload 6, 2) := by decide +kernel
theorem dX12_send_106 : decode cX12_send 106 = .ok (.iload 5, 2) := by decide +kernel
theorem dX12_send_108 : decode cX12_send 108 = .ok (.if_icmp .ge 24, 3) := by decide +kernel
theorem dX12_send_111 : decode cX12_send 111 = .ok (.aload_n 0, 1) := by decide +kernel
theorem dX12_send_112 : decode cX12_send 112 = .ok (.getfield 89, 3) := by decide +kernel
theorem dX12_send_115 : decode cX12_send 115 = .ok (.iload 6, 2) := by decide +kernel
theorem dX12_send_117 : decode cX12_send 117 = .ok (.iaload, 1) := by decide +kernel
theorem dX12_send_118 : decode cX12_send 118 = .ok (.iconst 1, 1) := by decide +kernel
theorem dX12_send_119 : decode cX12_send 119 = .ok (.if_icmp .ne 8, 3) := by decide +kernel
theorem dX12_send_122 : decode cX12_send 122 = .ok (.bipush (-16), 2) := by decide +kernel
theorem dX12_send_124 : decode cX12_send 124 = .ok (.goto 9, 3) := by decide +kernel
theorem dX12_send_127 : decode cX12_send 127 = .ok (.bipush 16, 2) := by decide +kernel
theorem dX12_send_129 : decode cX12_send 129 = .ok (.goto 4, 3) := by decide +kernel
theorem dX12_send_132 : decode cX12_send 132 = .ok (.iconst 0, 1) := by decide +kernel
theorem dX12_send_133 : decode cX12_send 133 = .ok (.iastore, 1) := by decide +kernel
theorem dX12_send_134 : decode cX12_send 134 = .ok (.iinc 6 1, 3) := by decide +kernel
theorem dX12_send_137 : decode cX12_send 137 = .ok (.goto (-54), 3) := by decide +kernel
theorem dX12_send_140 : decode cX12_send 140 = .ok (.iload 5, 2) := by decide +kernel
theorem dX12_send_142 : decode cX12_send 142 = .ok (.ireturn, 1) := by decide +kernel
theorem dX12_length_0 : decode cX12_length 0 = .ok (.aload_n 0, 1) := by decide +kernel
theorem dX12_length_1 : decode cX12_length 1 = .ok (.iload_n 1, 1) := by decide +kernel
theorem dX12_length_2 : decode cX12_length 2 = .ok (.invokevirtual 152, 3) := by decide +kernel
theorem dX12_length_5 : decode cX12_length 5 = .ok (.ifCond .eq 26, 3) := by decide +kernel
theorem dX12_length_8 : decode cX12_length 8 = .ok (.aload_n 0, 1) := by decide +kernel
theorem dX12_length_9 : decode cX12_length 9 = .ok (.iload_n 2, 1) := by decide +kernel
theorem dX12_length_10 : decode cX12_length 10 = .ok (.iconst 2, 1) := by decide +kernel
theorem dX12_length_11 : decode cX12_length 11 = .ok (.invokevirtual 197, 3) := by decide +kernel
theorem dX12_length_14 : decode cX12_length 14 = .ok (.ifCond .eq 17, 3) := by decide +kernel
theorem dX12_length_17 : decode cX12_length 17 = .ok (.aload_n 0, 1) := by decide +kernel
theorem dX12_length_18 : decode cX12_length 18 = .ok (.iload_n 1, 1) := by decide +kernel
theorem dX12_length_19 : decode cX12_length 19 = .ok (.aload_n 0, 1) := by decide +kernel
theorem dX12_length_20 : decode cX12_length 20 = .ok (.iload_n 1, 1) := by decide +kernel
theorem dX12_length_21 : decode cX12_length 21 = .ok (.iload_n 2, 1) := by decide +kernel
theorem dX12_length_22 : decode cX12_length 22 = .ok (.invokevirtual 190, 3) := by decide +kernel
theorem dX12_length_25 : decode cX12_length 25 = .ok (.invokevirtual 207, 3) := by decide +kernel
theorem dX12_length_28 : decode cX12_length 28 = .ok (.goto 4, 3) := by decide +kernel
theorem dX12_length_31 : decode cX12_length 31 = .ok (.iconst 0, 1) := by decide +kernel
theorem dX12_length_32 : decode cX12_length 32 = .ok (.ireturn, 1) := by decide +kernel
theorem dX12_cost_0 : decode cX12_cost 0 = .ok (.aload_n 0, 1) := by decide +kernel
theorem dX12_cost_1 : decode cX12_cost 1 = .ok (.iload_n 1, 1) := by decide +kernel
theorem dX12_cost_2 : decode cX12_cost 2 = .ok (.invokevirtual 152, 3) := by decide +kernel
theorem dX12_cost_5 : decode cX12_cost 5 = .ok (.ifCond .eq 31, 3) := by decide +kernel
theorem dX12_cost_8 : decode cX12_cost 8 = .ok (.aload_n 0, 1) := by decide +kernel
theorem dX12_cost_9 : decode cX12_cost 9 = .ok (.iload_n 2, 1) := by decide +kernel
theorem dX12_cost_10 : decode cX12_cost 10 = .ok (.iconst 1, 1) := by decide +kernel
theorem dX12_cost_11 : decode cX12_cost 11 = .ok (.invokevirtual 137, 3) := by decide +kernel
theorem dX12_cost_14 : decode cX12_cost 14 = .ok (.ifCond .eq 22, 3) := by decide +kernel
theorem dX12_cost_17 : decode cX12_cost 17 = .ok (.aload_n 0, 1) := by decide +kernel
theorem dX12_cost_18 : decode cX12_cost 18 = .ok (.iload 4, 2) := by decide +kernel
theorem dX12_cost_20 : decode cX12_cost 20 = .ok (.iconst 1, 1) := by decide +kernel
theorem dX12_cost_21 : decode cX12_cost 21 = .ok (.invokevirtual 137, 3) := by decide +kernel
theorem dX12_cost_24 : decode cX12_cost 24 = .ok (.ifCond .eq 12, 3) := by decide +kernel
theorem dX12_cost_27 : decode cX12_cost 27 = .ok (.aload_n 0, 1) := by decide +kernel
theorem dX12_cost_28 : decode cX12_cost 28 = .ok (.iload_n 3, 1) := by decide +kernel
theorem dX12_cost_29 : decode cX12_cost 29 = .ok (.iconst 2, 1) := by decide +kernel
theorem dX12_cost_30 : decode cX12_cost 30 = .ok (.invokevirtual 197, 3) := by decide +kernel
theorem dX12_cost_33 : decode cX12_cost 33 = .ok (.ifCond .ne 5, 3) := by decide +kernel
theorem dX12_cost_36 : decode cX12_cost 36 = .ok (.iconst 0, 1) := by decide +kernel
theorem dX12_cost_37 : decode cX12_cost 37 = .ok (.ireturn, 1) := by decide +kernel
theorem dX12_cost_38 : decode cX12_cost 38 = .ok (.aload_n 0, 1) := by decide +kernel
theorem dX12_cost_39 : decode cX12_cost 39 = .ok (.iload_n 2, 1) := by decide +kernel
theorem dX12_cost_40 : decode cX12_cost 40 = .ok (.iload_n 3, 1) := by decide +kernel
theorem dX12_cost_41 : decode cX12_cost 41 = .ok (.invokevirtual 200, 3) := by decide +kernel
theorem dX12_cost_44 : decode cX12_cost 44 = .ok (.aload_n 0, 1) := by decide +kernel
theorem dX12_cost_45 : decode cX12_cost 45 = .ok (.iload_n 1, 1) := by decide +kernel
theorem dX12_cost_46 : decode cX12_cost 46 = .ok (.iload_n 3, 1) := by decide +kernel
theorem dX12_cost_47 : decode cX12_cost 47 = .ok (.invokevirtual 204, 3) := by decide +kernel
theorem dX12_cost_50 : decode cX12_cost 50 = .ok (.istore 5, 2) := by decide +kernel
theorem dX12_cost_52 : decode cX12_cost 52 = .ok (.iload 5, 2) := by decide +kernel
theorem dX12_cost_54 : decode cX12_cost 54 = .ok (.iconst (-1), 1) := by decide +kernel
theorem dX12_cost_55 : decode cX12_cost 55 = .ok (.if_icmp .ne 5, 3) := by decide +kernel
theorem dX12_cost_58 : decode cX12_cost 58 = .ok (.iconst (-1), 1) := by decide +kernel
theorem dX12_cost_59 : decode cX12_cost 59 = .ok (.ireturn, 1) := by decide +kernel
theorem dX12_cost_60 : decode cX12_cost 60 = .ok (.iconst 0, 1) := by decide +kernel
theorem dX12_cost_61 : decode cX12_cost 61 = .ok (.istore 6, 2) := by decide +kernel
theorem dX12_cost_63 : decode cX12_cost 63 = .ok (.iconst 0, 1) := by decide +kernel
theorem dX12_cost_64 : decode cX12_cost 64 = .ok (.istore 7, 2) := by decide +kernel
theorem dX12_cost_66 : decode cX12_cost 66 = .ok (.iload 7, 2) := by decide +kernel
theorem dX12_cost_68 : decode cX12_cost 68 = .ok (.iload 5, 2) := by decide +kernel
theorem dX12_cost_70 : decode cX12_cost 70 = .ok (.if_icmp .ge 29, 3) := by decide +kernel
theorem dX12_cost_73 : decode cX12_cost 73 = .ok (.iload 6, 2) := by decide +kernel
theorem dX12_cost_75 : decode cX12_cost 75 = .ok (.aload_n 0, 1) := by decide +kernel
theorem dX12_cost_76 : decode cX12_cost 76 = .ok (.iload 4, 2) := by decide +kernel
theorem dX12_cost_78 : decode cX12_cost 78 = .ok (.iload 7, 2) := by decide +kernel
theorem dX12_cost_80 : decode cX12_cost 80 = .ok (.aload_n 0, 1) := by decide +kernel
theorem dX12_cost_81 : decode cX12_cost 81 = .ok (.getfield 89, 3) := by decide +kernel
theorem dX12_cost_84 : decode cX12_cost 84 = .ok (.iload 7, 2) := by decide +kernel
theorem dX12_cost_86 : decode cX12_cost 86 = .ok (.iaload, 1) := by decide +kernel
theorem dX12_cost_87 : decode cX12_cost 87 = .ok (.invokevirtual 210, 3) := by decide +kernel
theorem dX12_cost_90 : decode cX12_cost 90 = .ok (.iadd, 1) := by decide +kernel
theorem dX12_cost_91 : decode cX12_cost 91 = .ok (.istore 6, 2) := by decide +kernel
theorem dX12_cost_93 : decode cX12_cost 93 = .ok (.iinc 7 1, 3) := by decide +kernel
theorem dX12_cost_96 : decode cX12_cost 96 = .ok (.goto (-30), 3) := by decide +kernel
theorem dX12_cost_99 : decode cX12_cost 99 = .ok (.iload 6, 2) := by decide +kernel
theorem dX12_cost_101 : decode cX12_cost 101 = .ok (.ireturn, 1) := by decide +kernel
theorem dX12_costs_0 : decode cX12_costs 0 = .ok (.iconst 0, 1) := by decide +kernel
theorem dX12_costs_1 : decode cX12_costs 1 = .ok (.istore 4, 2) := by decide +kernel
theorem dX12_costs_3 : decode cX12_costs 3 = .ok (.iconst 0, 1) := by decide +kernel
theorem dX12_costs_4 : decode cX12_costs 4 = .ok (.istore 5, 2) := by decide +kernel
theorem dX12_costs_6 : decode cX12_costs 6 = .ok (.iload 5, 2) := by decide +kernel
theorem dX12_costs_8 : decode cX12_costs 8 = .ok (.aload_n 0, 1) := by decide +kernel
theorem dX12_costs_9 : decode cX12_costs 9 = .ok (.iload_n 1, 1) := by decide +kernel
theorem dX12_costs_10 : decode cX12_costs 10 = .ok (.iload_n 3, 1) := by decide +kernel
theorem dX12_costs_11 : decode cX12_costs 11 = .ok (.invokevirtual 190, 3) := by decide +kernel
theorem dX12_costs_14 : decode cX12_costs 14 = .ok (.if_icmp .ge 147, 3) := by decide +kernel
theorem dX12_costs_17 : decode cX12_costs 17 = .ok (.iconst 0, 1) := by decide +kernel
theorem dX12_costs_18 : decode cX12_costs 18 = .ok (.istore 6, 2) := by decide +kernel
theorem dX12_costs_20 : decode cX12_costs 20 = .ok (.iload 6, 2) := by decide +kernel
theorem dX12_costs_22 : decode cX12_costs 22 = .ok (.iconst 1, 1) := by decide +kernel
theorem dX12_costs_23 : decode cX12_costs 23 = .ok (.aload_n 0, 1) := by decide +kernel
theorem dX12_costs_24 : decode cX12_costs 24 = .ok (.getfield 25, 3) := by decide +kernel
theorem dX12_costs_27 : decode cX12_costs 27 = .ok (.iload_n 1, 1) := by decide +kernel
theorem dX12_costs_28 : decode cX12_costs 28 = .ok (.iaload, 1) := by decide +kernel
theorem dX12_costs_29 : decode cX12_costs 29 = .ok (.ishl, 1) := by decide +kernel
theorem dX12_costs_30 : decode cX12_costs 30 = .ok (.if_icmp .ge 113, 3) := by decide +kernel
theorem dX12_costs_33 : decode cX12_costs 33 = .ok (.iconst 0, 1) := by decide +kernel
theorem dX12_costs_34 : decode cX12_costs 34 = .ok (.istore 7, 2) := by decide +kernel
theorem dX12_costs_36 : decode cX12_costs 36 = .ok (.iload 7, 2) := by decide +kernel
theorem dX12_costs_38 : decode cX12_costs 38 = .ok (.iconst 2, 1) := by decide +kernel
theorem dX12_costs_39 : decode cX12_costs 39 = .ok (.if_icmp .ge 98, 3) := by decide +kernel
theorem dX12_costs_42 : decode cX12_costs 42 = .ok (.iconst 0, 1) := by decide +kernel
theorem dX12_costs_43 : decode cX12_costs 43 = .ok (.istore 8, 2) := by decide +kernel
theorem dX12_costs_45 : decode cX12_costs 45 = .ok (.iload 4, 2) := by decide +kernel
theorem dX12_costs_47 : decode cX12_costs 47 = .ok (.istore 9, 2) := by decide +kernel
theorem dX12_costs_49 : decode cX12_costs 49 = .ok (.iconst 0, 1) := by decide +kernel
theorem dX12_costs_50 : decode cX12_costs 50 = .ok (.istore 10, 2) := by decide +kernel
theorem dX12_costs_52 : decode cX12_costs 52 = .ok (.iload 10, 2) := by decide +kernel
theorem dX12_costs_54 : decode cX12_costs 54 = .ok (.aload_n 0, 1) := by decide +kernel
theorem dX12_costs_55 : decode cX12_costs 55 = .ok (.getfield 28, 3) := by decide +kernel
theorem dX12_costs_58 : decode cX12_costs 58 = .ok (.iload_n 1, 1) := by decide +kernel
theorem dX12_costs_59 : decode cX12_costs 59 = .ok (.iaload, 1) := by decide +kernel
theorem dX12_costs_60 : decode cX12_costs 60 = .ok (.if_icmp .ge 50, 3) := by decide +kernel
theorem dX12_costs_63 : decode cX12_costs 63 = .ok (.aload_n 0, 1) := by decide +kernel
theorem dX12_costs_64 : decode cX12_costs 64 = .ok (.iload_n 1, 1) := by decide +kernel
theorem dX12_costs_65 : decode cX12_costs 65 = .ok (.iload 5, 2) := by decide +kernel
theorem dX12_costs_67 : decode cX12_costs 67 = .ok (.iload 10, 2) := by decide +kernel
theorem dX12_costs_69 : decode cX12_costs 69 = .ok (.invokevirtual 170, 3) := by decide +kernel
theorem dX12_costs_72 : decode cX12_costs 72 = .ok (.ifCond .ne 6, 3) := by decide +kernel
theorem dX12_costs_75 : decode cX12_costs 75 = .ok (.goto 29, 3) := by decide +kernel
theorem dX12_costs_78 : decode cX12_costs 78 = .ok (.iload 8, 2) := by decide +kernel
theorem dX12_costs_80 : decode cX12_costs 80 = .ok (.aload_n 0, 1) := by decide +kernel
theorem dX12_costs_81 : decode cX12_costs 81 = .ok (.iload_n 2, 1) := by decide +kernel
theorem dX12_costs_82 : decode cX12_costs 82 = .ok (.iload 9, 2) := by decide +kernel
theorem dX12_costs_84 : decode cX12_costs 84 = .ok (.aload_n 0, 1) := by decide +kernel
theorem dX12_costs_85 : decode cX12_costs 85 = .ok (.iload_n 1, 1) := by decide +kernel
theorem dX12_costs_86 : decode cX12_costs 86 = .ok (.iload 6, 2) := by decide +kernel
theorem dX12_costs_88 : decode cX12_costs 88 = .ok (.iload 7, 2) := by decide +kernel
theorem dX12_costs_90 : decode cX12_costs 90 = .ok (.iload 10, 2) := by decide +kernel
theorem dX12_costs_92 : decode cX12_costs 92 = .ok (.invokevirtual 193, 3) := by decide +kernel
theorem dX12_costs_95 : decode cX12_costs 95 = .ok (.invokevirtual 210, 3) := by decide +kernel
theorem dX12_costs_98 : decode cX12_costs 98 = .ok (.iadd, 1) := by decide +kernel
theorem dX12_costs_99 : decode cX12_costs 99 = .ok (.istore 8, 2) := by decide +kernel
theorem dX12_costs_101 : decode cX12_costs 101 = .ok (.iinc 9 1, 3) := by decide +kernel
theorem dX12_costs_104 : decode cX12_costs 104 = .ok (.iinc 10 1, 3) := by decide +kernel
theorem dX12_costs_107 : decode cX12_costs 107 = .ok (.goto (-55), 3) := by decide +kernel
theorem dX12_costs_110 : decode cX12_costs 110 = .ok (.aload_n 0, 1) := by decide +kernel
theorem dX12_costs_111 : decode cX12_costs 111 = .ok (.getfield 61, 3) := by decide +kernel
theorem dX12_costs_114 : decode cX12_costs 114 = .ok (.sipush 128, 3) := by decide +kernel
theorem dX12_costs_117 : decode cX12_costs 117 = .ok (.iload 5, 2) := by decide +kernel
theorem dX12_costs_119 : decode cX12_costs 119 = .ok (.imul, 1) := by decide +kernel
theorem dX12_costs_120 : decode cX12_costs 120 = .ok (.iconst 2, 1) := by decide +kernel
theorem dX12_costs_121 : decode cX12_costs 121 = .ok (.iload 6, 2) := by decide +kernel
theorem dX12_costs_123 : decode cX12_costs 123 = .ok (.imul, 1) := by decide +kernel
theorem dX12_costs_124 : decode cX12_costs 124 = .ok (.iadd, 1) := by decide +kernel
theorem dX12_costs_125 : decode cX12_costs 125 = .ok (.iload 7, 2) := by decide +kernel
theorem dX12_costs_127 : decode cX12_costs 127 = .ok (.iadd, 1) := by decide +kernel
theorem dX12_costs_128 : decode cX12_costs 128 = .ok (.iload 8, 2) := by decide +kernel
theorem dX12_costs_130 : decode cX12_costs 130 = .ok (.iastore, 1) := by decide +kernel
theorem dX12_costs_131 : decode cX12_costs 131 = .ok (.iinc 7 1, 3) := by decide +kernel
theorem dX12_costs_134 : decode cX12_costs 134 = .ok (.goto (-98), 3) := by decide +kernel
theorem dX12_costs_137 : decode cX12_costs 137 = .ok (.iinc 6 1, 3) := by decide +kernel
theorem dX12_costs_140 : decode cX12_costs 140 = .ok (.goto (-120), 3) := by decide +kernel
theorem dX12_costs_143 : decode cX12_costs 143 = .ok (.iload 4, 2) := by decide +kernel
theorem dX12_costs_145 : decode cX12_costs 145 = .ok (.aload_n 0, 1) := by decide +kernel
theorem dX12_costs_146 : decode cX12_costs 146 = .ok (.iload_n 1, 1) := by decide +kernel
theorem dX12_costs_147 : decode cX12_costs 147 = .ok (.iload 5, 2) := by decide +kernel
theorem dX12_costs_149 : decode cX12_costs 149 = .ok (.invokevirtual 174, 3) := by decide +kernel
theorem dX12_costs_152 : decode cX12_costs 152 = .ok (.iadd, 1) := by decide +kernel
theorem dX12_costs_153 : decode cX12_costs 153 = .ok (.istore 4, 2) := by decide +kernel
theorem dX12_costs_155 : decode cX12_costs 155 = .ok (.iinc 5 1, 3) := by decide +kernel
theorem dX12_costs_158 : decode cX12_costs 158 = .ok (.goto (-152), 3) := by decide +kernel
theorem dX12_costs_161 : decode cX12_costs 161 = .ok (.return_, 1) := by decide +kernel
theorem dX12_rests_0 : decode cX12_rests 0 = .ok (.iconst 1, 1) := by decide +kernel
theorem dX12_rests_1 : decode cX12_rests 1 = .ok (.aload_n 0, 1) := by decide +kernel
theorem dX12_rests_2 : decode cX12_rests 2 = .ok (.getfield 25, 3) := by decide +kernel
theorem dX12_rests_5 : decode cX12_rests 5 = .ok (.iload_n 1, 1) := by decide +kernel
theorem dX12_rests_6 : decode cX12_rests 6 = .ok (.iaload, 1) := by decide +kernel
theorem dX12_rests_7 : decode cX12_rests 7 = .ok (.ishl, 1) := by decide +kernel
theorem dX12_rests_8 : decode cX12_rests 8 = .ok (.istore 5, 2) := by decide +kernel
theorem dX12_rests_10 : decode cX12_rests 10 = .ok (.iconst 0, 1) := by decide +kernel
theorem dX12_rests_11 : decode cX12_rests 11 = .ok (.istore 6, 2) := by decide +kernel
theorem dX12_rests_13 : decode cX12_rests 13 = .ok (.iload 6, 2) := by decide +kernel
theorem dX12_rests_15 : decode cX12_rests 15 = .ok (.iload 5, 2) := by decide +kernel
theorem dX12_rests_17 : decode cX12_rests 17 = .ok (.if_icmp .ge 144, 3) := by decide +kernel
theorem dX12_rests_20 : decode cX12_rests 20 = .ok (.aload_n 0, 1) := by decide +kernel
theorem dX12_rests_21 : decode cX12_rests 21 = .ok (.getfield 22, 3) := by decide +kernel
theorem dX12_rests_24 : decode cX12_rests 24 = .ok (.iload_n 1, 1) := by decide +kernel
theorem dX12_rests_25 : decode cX12_rests 25 = .ok (.iaload, 1) := by decide +kernel
theorem dX12_rests_26 : decode cX12_rests 26 = .ok (.iconst 4, 1) := by decide +kernel
theorem dX12_rests_27 : decode cX12_rests 27 = .ok (.if_icmp .ne 10, 3) := by decide +kernel
theorem dX12_rests_30 : decode cX12_rests 30 = .ok (.iload 6, 2) := by decide +kernel
theorem dX12_rests_32 : decode cX12_rests 32 = .ok (.iload 4, 2) := by decide +kernel
theorem dX12_rests_34 : decode cX12_rests 34 = .ok (.if_icmp .ne 7, 3) := by decide +kernel
theorem dX12_rests_37 : decode cX12_rests 37 = .ok (.iconst 1, 1) := by decide +kernel
theorem dX12_rests_38 : decode cX12_rests 38 = .ok (.goto 4, 3) := by decide +kernel
theorem dX12_rests_41 : decode cX12_rests 41 = .ok (.iconst 0, 1) := by decide +kernel
theorem dX12_rests_42 : decode cX12_rests 42 = .ok (.istore 7, 2) := by decide +kernel
theorem dX12_rests_44 : decode cX12_rests 44 = .ok (.aload_n 0, 1) := by decide +kernel
theorem dX12_rests_45 : decode cX12_rests 45 = .ok (.getfield 64, 3) := by decide +kernel
theorem dX12_rests_48 : decode cX12_rests 48 = .ok (.bipush 64, 2) := by decide +kernel
theorem dX12_rests_50 : decode cX12_rests 50 = .ok (.iload_n 2, 1) := by decide +kernel
theorem dX12_rests_51 : decode cX12_rests 51 = .ok (.imul, 1) := by decide +kernel
theorem dX12_rests_52 : decode cX12_rests 52 = .ok (.iload 6, 2) := by decide +kernel
theorem dX12_rests_54 : decode cX12_rests 54 = .ok (.iadd, 1) := by decide +kernel
theorem dX12_rests_55 : decode cX12_rests 55 = .ok (.iload 7, 2) := by decide +kernel
theorem dX12_rests_57 : decode cX12_rests 57 = .ok (.ifCond .eq 7, 3) := by decide +kernel
theorem dX12_rests_60 : decode cX12_rests 60 = .ok (.iconst 1, 1) := by decide +kernel
theorem dX12_rests_61 : decode cX12_rests 61 = .ok (.goto 4, 3) := by decide +kernel
theorem dX12_rests_64 : decode cX12_rests 64 = .ok (.iconst 0, 1) := by decide +kernel
theorem dX12_rests_65 : decode cX12_rests 65 = .ok (.iastore, 1) := by decide +kernel
theorem dX12_rests_66 : decode cX12_rests 66 = .ok (.iconst 0, 1) := by decide +kernel
theorem dX12_rests_67 : decode cX12_rests 67 = .ok (.istore 8, 2) := by decide +kernel
theorem dX12_rests_69 : decode cX12_rests 69 = .ok (.iload 6, 2) := by decide +kernel
theorem dX12_rests_71 : decode cX12_rests 71 = .ok (.istore 9, 2) := by decide +kernel
theorem dX12_rests_73 : decode cX12_rests 73 = .ok (.iload_n 2, 1) := by decide +kernel
theorem dX12_rests_74 : decode cX12_rests 74 = .ok (.istore 10, 2) := by decide +kernel
theorem dX12_rests_76 : decode cX12_rests 76 = .ok (.iload 10, 2) := by decide +kernel
theorem dX12_rests_78 : decode cX12_rests 78 = .ok (.aload_n 0, 1) := by decide +kernel
theorem dX12_rests_79 : decode cX12_rests 79 = .ok (.iload_n 1, 1) := by decide +kernel
theorem dX12_rests_80 : decode cX12_rests 80 = .ok (.iload_n 2, 1) := by decide +kernel
theorem dX12_rests_81 : decode cX12_rests 81 = .ok (.invokevirtual 190, 3) := by decide +kernel
theorem dX12_rests_84 : decode cX12_rests 84 = .ok (.if_icmp .ge 53, 3) := by decide +kernel
theorem dX12_rests_87 : decode cX12_rests 87 = .ok (.aload_n 0, 1) := by decide +kernel
theorem dX12_rests_88 : decode cX12_rests 88 = .ok (.iload_n 1, 1) := by decide +kernel
theorem dX12_rests_89 : decode cX12_rests 89 = .ok (.iload 9, 2) := by decide +kernel
theorem dX12_rests_91 : decode cX12_rests 91 = .ok (.invokevirtual 167, 3) := by decide +kernel
theorem dX12_rests_94 : decode cX12_rests 94 = .ok (.istore 11, 2) := by decide +kernel
theorem dX12_rests_96 : decode cX12_rests 96 = .ok (.iload 8, 2) := by decide +kernel
theorem dX12_rests_98 : decode cX12_rests 98 = .ok (.aload_n 0, 1) := by decide +kernel
theorem dX12_rests_99 : decode cX12_rests 99 = .ok (.getfield 61, 3) := by decide +kernel
theorem dX12_rests_102 : decode cX12_rests 102 = .ok (.sipush 128, 3) := by decide +kernel
theorem dX12_rests_105 : decode cX12_rests 105 = .ok (.iload 10, 2) := by decide +kernel
theorem dX12_rests_107 : decode cX12_rests 107 = .ok (.imul, 1) := by decide +kernel
theorem dX12_rests_108 : decode cX12_rests 108 = .ok (.iconst 2, 1) := by decide +kernel
theorem dX12_rests_109 : decode cX12_rests 109 = .ok (.iload 9, 2) := by decide +kernel
theorem dX12_rests_111 : decode cX12_rests 111 = .ok (.imul, 1) := by decide +kernel
theorem dX12_rests_112 : decode cX12_rests 112 = .ok (.iadd, 1) := by decide +kernel
theorem dX12_rests_113 : decode cX12_rests 113 = .ok (.iload 11, 2) := by decide +kernel
theorem dX12_rests_115 : decode cX12_rests 115 = .ok (.iadd, 1) := by decide +kernel
theorem dX12_rests_116 : decode cX12_rests 116 = .ok (.iaload, 1) := by decide +kernel
theorem dX12_rests_117 : decode cX12_rests 117 = .ok (.iadd, 1) := by decide +kernel
theorem dX12_rests_118 : decode cX12_rests 118 = .ok (.istore 8, 2) := by decide +kernel
theorem dX12_rests_120 : decode cX12_rests 120 = .ok (.aload_n 0, 1) := by decide +kernel
theorem dX12_rests_121 : decode cX12_rests 121 = .ok (.iload_n 1, 1) := by decide +kernel
theorem dX12_rests_122 : decode cX12_rests 122 = .ok (.iload 9, 2) := by decide +kernel
theorem dX12_rests_124 : decode cX12_rests 124 = .ok (.iload 11, 2) := by decide +kernel
theorem dX12_rests_126 : decode cX12_rests 126 = .ok (.invokevirtual 181, 3) := by decide +kernel
theorem dX12_rests_129 : decode cX12_rests 129 = .ok (.istore 9, 2) := by decide +kernel
theorem dX12_rests_131 : decode cX12_rests 131 = .ok (.iinc 10 1, 3) := by decide +kernel
theorem dX12_rests_134 : decode cX12_rests 134 = .ok (.goto (-58), 3) := by decide +kernel
theorem dX12_rests_137 : decode cX12_rests 137 = .ok (.aload_n 0, 1) := by decide +kernel
theorem dX12_rests_138 : decode cX12_rests 138 = .ok (.getfield 68, 3) := by decide +kernel
theorem dX12_rests_141 : decode cX12_rests 141 = .ok (.sipush 512, 3) := by decide +kernel
theorem dX12_rests_144 : decode cX12_rests 144 = .ok (.iload_n 2, 1) := by decide +kernel
theorem dX12_rests_145 : decode cX12_rests 145 = .ok (.imul, 1) := by decide +kernel
theorem dX12_rests_146 : decode cX12_rests 146 = .ok (.bipush 8, 2) := by decide +kernel
theorem dX12_rests_148 : decode cX12_rests 148 = .ok (.iload 6, 2) := by decide +kernel
theorem dX12_rests_150 : decode cX12_rests 150 = .ok (.imul, 1) := by decide +kernel
theorem dX12_rests_151 : decode cX12_rests 151 = .ok (.iadd, 1) := by decide +kernel
theorem dX12_rests_152 : decode cX12_rests 152 = .ok (.iload 8, 2) := by decide +kernel
theorem dX12_rests_154 : decode cX12_rests 154 = .ok (.iastore, 1) := by decide +kernel
theorem dX12_rests_155 : decode cX12_rests 155 = .ok (.iinc 6 1, 3) := by decide +kernel
theorem dX12_rests_158 : decode cX12_rests 158 = .ok (.goto (-145), 3) := by decide +kernel
theorem dX12_rests_161 : decode cX12_rests 161 = .ok (.iload_n 2, 1) := by decide +kernel
theorem dX12_rests_162 : decode cX12_rests 162 = .ok (.iconst 1, 1) := by decide +kernel
theorem dX12_rests_163 : decode cX12_rests 163 = .ok (.isub, 1) := by decide +kernel
theorem dX12_rests_164 : decode cX12_rests 164 = .ok (.istore 6, 2) := by decide +kernel
theorem dX12_rests_166 : decode cX12_rests 166 = .ok (.iload 6, 2) := by decide +kernel
theorem dX12_rests_168 : decode cX12_rests 168 = .ok (.ifCond .lt 35, 3) := by decide +kernel
theorem dX12_rests_171 : decode cX12_rests 171 = .ok (.iconst 0, 1) := by decide +kernel
theorem dX12_rests_172 : decode cX12_rests 172 = .ok (.istore 7, 2) := by decide +kernel
theorem dX12_rests_174 : decode cX12_rests 174 = .ok (.iload 7, 2) := by decide +kernel
theorem dX12_rests_176 : decode cX12_rests 176 = .ok (.iload 5, 2) := by decide +kernel
theorem dX12_rests_178 : decode cX12_rests 178 = .ok (.if_icmp .ge 19, 3) := by decide +kernel
theorem dX12_rests_181 : decode cX12_rests 181 = .ok (.aload_n 0, 1) := by decide +kernel
theorem dX12_rests_182 : decode cX12_rests 182 = .ok (.iload_n 1, 1) := by decide +kernel
theorem dX12_rests_183 : decode cX12_rests 183 = .ok (.iload 6, 2) := by decide +kernel
theorem dX12_rests_185 : decode cX12_rests 185 = .ok (.iload 7, 2) := by decide +kernel
theorem dX12_rests_187 : decode cX12_rests 187 = .ok (.iload_n 3, 1) := by decide +kernel
theorem dX12_rests_188 : decode cX12_rests 188 = .ok (.invokevirtual 213, 3) := by decide +kernel
theorem dX12_rests_191 : decode cX12_rests 191 = .ok (.iinc 7 1, 3) := by decide +kernel
theorem dX12_rests_194 : decode cX12_rests 194 = .ok (.goto (-20), 3) := by decide +kernel
theorem dX12_rests_197 : decode cX12_rests 197 = .ok (.iinc 6 (-1), 3) := by decide +kernel
theorem dX12_rests_200 : decode cX12_rests 200 = .ok (.goto (-34), 3) := by decide +kernel
theorem dX12_rests_203 : decode cX12_rests 203 = .ok (.return_, 1) := by decide +kernel
theorem dX12_rest_0 : decode cX12_rest 0 = .ok (.aload_n 0, 1) := by decide +kernel
theorem dX12_rest_1 : decode cX12_rest 1 = .ok (.iload_n 1, 1) := by decide +kernel
theorem dX12_rest_2 : decode cX12_rest 2 = .ok (.iload_n 3, 1) := by decide +kernel
theorem dX12_rest_3 : decode cX12_rest 3 = .ok (.iconst 0, 1) := by decide +kernel
theorem dX12_rest_4 : decode cX12_rest 4 = .ok (.invokevirtual 181, 3) := by decide +kernel
theorem dX12_rest_7 : decode cX12_rest 7 = .ok (.istore 5, 2) := by decide +kernel
theorem dX12_rest_9 : decode cX12_rest 9 = .ok (.aload_n 0, 1) := by decide +kernel
theorem dX12_rest_10 : decode cX12_rest 10 = .ok (.iload_n 1, 1) := by decide +kernel
theorem dX12_rest_11 : decode cX12_rest 11 = .ok (.iload_n 3, 1) := by decide +kernel
theorem dX12_rest_12 : decode cX12_rest 12 = .ok (.iconst 1, 1) := by decide +kernel
theorem dX12_rest_13 : decode cX12_rest 13 = .ok (.invokevirtual 181, 3) := by decide +kernel
theorem dX12_rest_16 : decode cX12_rest 16 = .ok (.istore 6, 2) := by decide +kernel
theorem dX12_rest_18 : decode cX12_rest 18 = .ok (.iconst 0, 1) := by decide +kernel
theorem dX12_rest_19 : decode cX12_rest 19 = .ok (.istore 7, 2) := by decide +kernel
theorem dX12_rest_21 : decode cX12_rest 21 = .ok (.iconst 0, 1) := by decide +kernel
theorem dX12_rest_22 : decode cX12_rest 22 = .ok (.istore 8, 2) := by decide +kernel
theorem dX12_rest_24 : decode cX12_rest 24 = .ok (.iconst 0, 1) := by decide +kernel
theorem dX12_rest_25 : decode cX12_rest 25 = .ok (.istore 9, 2) := by decide +kernel
theorem dX12_rest_27 : decode cX12_rest 27 = .ok (.iload 9, 2) := by decide +kernel
theorem dX12_rest_29 : decode cX12_rest 29 = .ok (.iload 4, 2) := by decide +kernel
theorem dX12_rest_31 : decode cX12_rest 31 = .ok (.if_icmp .ge 265, 3) := by decide +kernel
theorem dX12_rest_34 : decode cX12_rest 34 = .ok (.iload 7, 2) := by decide +kernel
theorem dX12_rest_36 : decode cX12_rest 36 = .ok (.aload_n 0, 1) := by decide +kernel
theorem dX12_rest_37 : decode cX12_rest 37 = .ok (.getfield 64, 3) := by decide +kernel
theorem dX12_rest_40 : decode cX12_rest 40 = .ok (.bipush 64, 2) := by decide +kernel
theorem dX12_rest_42 : decode cX12_rest 42 = .ok (.iload_n 2, 1) := by decide +kernel
theorem dX12_rest_43 : decode cX12_rest 43 = .ok (.iconst 1, 1) := by decide +kernel
theorem dX12_rest_44 : decode cX12_rest 44 = .ok (.iadd, 1) := by decide +kernel
theorem dX12_rest_45 : decode cX12_rest 45 = .ok (.imul, 1) := by decide +kernel
theorem dX12_rest_46 : decode cX12_rest 46 = .ok (.iload 5, 2) := by decide +kernel
theorem dX12_rest_48 : decode cX12_rest 48 = .ok (.iadd, 1) := by decide +kernel
theorem dX12_rest_49 : decode cX12_rest 49 = .ok (.iaload, 1) := by decide +kernel
theorem dX12_rest_50 : decode cX12_rest 50 = .ok (.if_icmp .lt 22, 3) := by decide +kernel
theorem dX12_rest_53 : decode cX12_rest 53 = .ok (.iload 8, 2) := by decide +kernel
theorem dX12_rest_55 : decode cX12_rest 55 = .ok (.aload_n 0, 1) := by decide +kernel
theorem dX12_rest_56 : decode cX12_rest 56 = .ok (.getfield 64, 3) := by decide +kernel
theorem dX12_rest_59 : decode cX12_rest 59 = .ok (.bipush 64, 2) := by decide +kernel
theorem dX12_rest_61 : decode cX12_rest 61 = .ok (.iload_n 2, 1) := by decide +kernel
theorem dX12_rest_62 : decode cX12_rest 62 = .ok (.iconst 1, 1) := by decide +kernel
theorem dX12_rest_63 : decode cX12_rest 63 = .ok (.iadd, 1) := by decide +kernel
theorem dX12_rest_64 : decode cX12_rest 64 = .ok (.imul, 1) := by decide +kernel
theorem dX12_rest_65 : decode cX12_rest 65 = .ok (.iload 6, 2) := by decide +kernel
theorem dX12_rest_67 : decode cX12_rest 67 = .ok (.iadd, 1) := by decide +kernel
theorem dX12_rest_68 : decode cX12_rest 68 = .ok (.iaload, 1) := by decide +kernel
theorem dX12_rest_69 : decode cX12_rest 69 = .ok (.if_icmp .ge 227, 3) := by decide +kernel
theorem dX12_rest_72 : decode cX12_rest 72 = .ok (.iload 7, 2) := by decide +kernel
theorem dX12_rest_74 : decode cX12_rest 74 = .ok (.aload_n 0, 1) := by decide +kernel
theorem dX12_rest_75 : decode cX12_rest 75 = .ok (.getfield 64, 3) := by decide +kernel
theorem dX12_rest_78 : decode cX12_rest 78 = .ok (.bipush 64, 2) := by decide +kernel
theorem dX12_rest_80 : decode cX12_rest 80 = .ok (.iload_n 2, 1) := by decide +kernel
theorem dX12_rest_81 : decode cX12_rest 81 = .ok (.iconst 1, 1) := by decide +kernel
theorem dX12_rest_82 : decode cX12_rest 82 = .ok (.iadd, 1) := by decide +kernel
theorem dX12_rest_83 : decode cX12_rest 83 = .ok (.imul, 1) := by decide +kernel
theorem dX12_rest_84 : decode cX12_rest 84 = .ok (.iload 5, 2) := by decide +kernel
theorem dX12_rest_86 : decode cX12_rest 86 = .ok (.iadd, 1) := by decide +kernel
theorem dX12_rest_87 : decode cX12_rest 87 = .ok (.iaload, 1) := by decide +kernel
theorem dX12_rest_88 : decode cX12_rest 88 = .ok (.if_icmp .ge 42, 3) := by decide +kernel
theorem dX12_rest_91 : decode cX12_rest 91 = .ok (.aload_n 0, 1) := by decide +kernel
theorem dX12_rest_92 : decode cX12_rest 92 = .ok (.getfield 61, 3) := by decide +kernel
theorem dX12_rest_95 : decode cX12_rest 95 = .ok (.sipush 128, 3) := by decide +kernel
theorem dX12_rest_98 : decode cX12_rest 98 = .ok (.iload_n 2, 1) := by decide +kernel
theorem dX12_rest_99 : decode cX12_rest 99 = .ok (.imul, 1) := by decide +kernel
theorem dX12_rest_100 : decode cX12_rest 100 = .ok (.iconst 2, 1) := by decide +kernel
theorem dX12_rest_101 : decode cX12_rest 101 = .ok (.iload_n 3, 1) := by decide +kernel
theorem dX12_rest_102 : decode cX12_rest 102 = .ok (.imul, 1) := by decide +kernel
theorem dX12_rest_103 : decode cX12_rest 103 = .ok (.iadd, 1) := by decide +kernel
theorem dX12_rest_104 : decode cX12_rest 104 = .ok (.iaload, 1) := by decide +kernel
theorem dX12_rest_105 : decode cX12_rest 105 = .ok (.aload_n 0, 1) := by decide +kernel
theorem dX12_rest_106 : decode cX12_rest 106 = .ok (.getfield 68, 3) := by decide +kernel
theorem dX12_rest_109 : decode cX12_rest 109 = .ok (.sipush 512, 3) := by decide +kernel
theorem dX12_rest_112 : decode cX12_rest 112 = .ok (.iload_n 2, 1) := by decide +kernel
theorem dX12_rest_113 : decode cX12_rest 113 = .ok (.iconst 1, 1) := by decide +kernel
theorem dX12_rest_114 : decode cX12_rest 114 = .ok (.iadd, 1) := by decide +kernel
theorem dX12_rest_115 : decode cX12_rest 115 = .ok (.imul, 1) := by decide +kernel
theorem dX12_rest_116 : decode cX12_rest 116 = .ok (.bipush 8, 2) := by decide +kernel
theorem dX12_rest_118 : decode cX12_rest 118 = .ok (.iload 5, 2) := by decide +kernel
theorem dX12_rest_120 : decode cX12_rest 120 = .ok (.imul, 1) := by decide +kernel
theorem dX12_rest_121 : decode cX12_rest 121 = .ok (.iadd, 1) := by decide +kernel
theorem dX12_rest_122 : decode cX12_rest 122 = .ok (.iload 7, 2) := by decide +kernel
theorem dX12_rest_124 : decode cX12_rest 124 = .ok (.iadd, 1) := by decide +kernel
theorem dX12_rest_125 : decode cX12_rest 125 = .ok (.iaload, 1) := by decide +kernel
theorem dX12_rest_126 : decode cX12_rest 126 = .ok (.iadd, 1) := by decide +kernel
theorem dX12_rest_127 : decode cX12_rest 127 = .ok (.goto 5, 3) := by decide +kernel
theorem dX12_rest_130 : decode cX12_rest 130 = .ok (.ldc 217, 2) := by decide +kernel
theorem dX12_rest_132 : decode cX12_rest 132 = .ok (.istore 10, 2) := by decide +kernel
theorem dX12_rest_134 : decode cX12_rest 134 = .ok (.iload 8, 2) := by decide +kernel
theorem dX12_rest_136 : decode cX12_rest 136 = .ok (.aload_n 0, 1) := by decide +kernel
theorem dX12_rest_137 : decode cX12_rest 137 = .ok (.getfield 64, 3) := by decide +kernel
theorem dX12_rest_140 : decode cX12_rest 140 = .ok (.bipush 64, 2) := by decide +kernel
theorem dX12_rest_142 : decode cX12_rest 142 = .ok (.iload_n 2, 1) := by decide +kernel
theorem dX12_rest_143 : decode cX12_rest 143 = .ok (.iconst 1, 1) := by decide +kernel
theorem dX12_rest_144 : decode cX12_rest 144 = .ok (.iadd, 1) := by decide +kernel
theorem dX12_rest_145 : decode cX12_rest 145 = .ok (.imul, 1) := by decide +kernel
theorem dX12_rest_146 : decode cX12_rest 146 = .ok (.iload 6, 2) := by decide +kernel
theorem dX12_rest_148 : decode cX12_rest 148 = .ok (.iadd, 1) := by decide +kernel
theorem dX12_rest_149 : decode cX12_rest 149 = .ok (.iaload, 1) := by decide +kernel
theorem dX12_rest_150 : decode cX12_rest 150 = .ok (.if_icmp .ge 44, 3) := by decide +kernel
theorem dX12_rest_153 : decode cX12_rest 153 = .ok (.aload_n 0, 1) := by decide +kernel
theorem dX12_rest_154 : decode cX12_rest 154 = .ok (.getfield 61, 3) := by decide +kernel
theorem dX12_rest_157 : decode cX12_rest 157 = .ok (.sipush 128, 3) := by decide +kernel
theorem dX12_rest_160 : decode cX12_rest 160 = .ok (.iload_n 2, 1) := by decide +kernel
theorem dX12_rest_161 : decode cX12_rest 161 = .ok (.imul, 1) := by decide +kernel
theorem dX12_rest_162 : decode cX12_rest 162 = .ok (.iconst 2, 1) := by decide +kernel
theorem dX12_rest_163 : decode cX12_rest 163 = .ok (.iload_n 3, 1) := by decide +kernel
theorem dX12_rest_164 : decode cX12_rest 164 = .ok (.imul, 1) := by decide +kernel
theorem dX12_rest_165 : decode cX12_rest 165 = .ok (.iadd, 1) := by decide +kernel
theorem dX12_rest_166 : decode cX12_rest 166 = .ok (.iconst 1, 1) := by decide +kernel
theorem dX12_rest_167 : decode cX12_rest 167 = .ok (.iadd, 1) := by decide +kernel
theorem dX12_rest_168 : decode cX12_rest 168 = .ok (.iaload, 1) := by decide +kernel
theorem dX12_rest_169 : decode cX12_rest 169 = .ok (.aload_n 0, 1) := by decide +kernel
theorem dX12_rest_170 : decode cX12_rest 170 = .ok (.getfield 68, 3) := by decide +kernel
theorem dX12_rest_173 : decode cX12_rest 173 = .ok (.sipush 512, 3) := by decide +kernel
theorem dX12_rest_176 : decode cX12_rest 176 = .ok (.iload_n 2, 1) := by decide +kernel
theorem dX12_rest_177 : decode cX12_rest 177 = .ok (.iconst 1, 1) := by decide +kernel
theorem dX12_rest_178 : decode cX12_rest 178 = .ok (.iadd, 1) := by decide +kernel
theorem dX12_rest_179 : decode cX12_rest 179 = .ok (.imul, 1) := by decide +kernel
theorem dX12_rest_180 : decode cX12_rest 180 = .ok (.bipush 8, 2) := by decide +kernel
theorem dX12_rest_182 : decode cX12_rest 182 = .ok (.iload 6, 2) := by decide +kernel
theorem dX12_rest_184 : decode cX12_rest 184 = .ok (.imul, 1) := by decide +kernel
theorem dX12_rest_185 : decode cX12_rest 185 = .ok (.iadd, 1) := by decide +kernel
theorem dX12_rest_186 : decode cX12_rest 186 = .ok (.iload 8, 2) := by decide +kernel
theorem dX12_rest_188 : decode cX12_rest 188 = .ok (.iadd, 1) := by decide +kernel
theorem dX12_rest_189 : decode cX12_rest 189 = .ok (.iaload, 1) := by decide +kernel
theorem dX12_rest_190 : decode cX12_rest 190 = .ok (.iadd, 1) := by decide +kernel
theorem dX12_rest_191 : decode cX12_rest 191 = .ok (.goto 5, 3) := by decide +kernel
theorem dX12_rest_194 : decode cX12_rest 194 = .ok (.ldc 217, 2) := by decide +kernel
theorem dX12_rest_196 : decode cX12_rest 196 = .ok (.istore 11, 2) := by decide +kernel
theorem dX12_rest_198 : decode cX12_rest 198 = .ok (.sipush 512, 3) := by decide +kernel
theorem dX12_rest_201 : decode cX12_rest 201 = .ok (.iload_n 2, 1) := by decide +kernel
theorem dX12_rest_202 : decode cX12_rest 202 = .ok (.imul, 1) := by decide +kernel
theorem dX12_rest_203 : decode cX12_rest 203 = .ok (.bipush 8, 2) := by decide +kernel
theorem dX12_rest_205 : decode cX12_rest 205 = .ok (.iload_n 3, 1) := by decide +kernel
theorem dX12_rest_206 : decode cX12_rest 206 = .ok (.imul, 1) := by decide +kernel
theorem dX12_rest_207 : decode cX12_rest 207 = .ok (.iadd, 1) := by decide +kernel
theorem dX12_rest_208 : decode cX12_rest 208 = .ok (.iload 9, 2) := by decide +kernel
theorem dX12_rest_210 : decode cX12_rest 210 = .ok (.iadd, 1) := by decide +kernel
theorem dX12_rest_211 : decode cX12_rest 211 = .ok (.istore 12, 2) := by decide +kernel
theorem dX12_rest_213 : decode cX12_rest 213 = .ok (.aload_n 0, 1) := by decide +kernel
theorem dX12_rest_214 : decode cX12_rest 214 = .ok (.getfield 68, 3) := by decide +kernel
theorem dX12_rest_217 : decode cX12_rest 217 = .ok (.iload 12, 2) := by decide +kernel
theorem dX12_rest_219 : decode cX12_rest 219 = .ok (.iload 10, 2) := by decide +kernel
theorem dX12_rest_221 : decode cX12_rest 221 = .ok (.iload 11, 2) := by decide +kernel
theorem dX12_rest_223 : decode cX12_rest 223 = .ok (.if_icmp .gt 8, 3) := by decide +kernel
theorem dX12_rest_226 : decode cX12_rest 226 = .ok (.iload 10, 2) := by decide +kernel
theorem dX12_rest_228 : decode cX12_rest 228 = .ok (.goto 5, 3) := by decide +kernel
theorem dX12_rest_231 : decode cX12_rest 231 = .ok (.iload 11, 2) := by decide +kernel
theorem dX12_rest_233 : decode cX12_rest 233 = .ok (.iastore, 1) := by decide +kernel
theorem dX12_rest_234 : decode cX12_rest 234 = .ok (.aload_n 0, 1) := by decide +kernel
theorem dX12_rest_235 : decode cX12_rest 235 = .ok (.getfield 71, 3) := by decide +kernel
theorem dX12_rest_238 : decode cX12_rest 238 = .ok (.iload 12, 2) := by decide +kernel
theorem dX12_rest_240 : decode cX12_rest 240 = .ok (.iload 10, 2) := by decide +kernel
theorem dX12_rest_242 : decode cX12_rest 242 = .ok (.iload 11, 2) := by decide +kernel
theorem dX12_rest_244 : decode cX12_rest 244 = .ok (.if_icmp .gt 7, 3) := by decide +kernel
theorem dX12_rest_247 : decode cX12_rest 247 = .ok (.iconst 0, 1) := by decide +kernel
theorem dX12_rest_248 : decode cX12_rest 248 = .ok (.goto 4, 3) := by decide +kernel
theorem dX12_rest_251 : decode cX12_rest 251 = .ok (.iconst 1, 1) := by decide +kernel
theorem dX12_rest_252 : decode cX12_rest 252 = .ok (.iastore, 1) := by decide +kernel
theorem dX12_rest_253 : decode cX12_rest 253 = .ok (.aload_n 0, 1) := by decide +kernel
theorem dX12_rest_254 : decode cX12_rest 254 = .ok (.getfield 74, 3) := by decide +kernel
theorem dX12_rest_257 : decode cX12_rest 257 = .ok (.iload 12, 2) := by decide +kernel
theorem dX12_rest_259 : decode cX12_rest 259 = .ok (.iload 10, 2) := by decide +kernel
theorem dX12_rest_261 : decode cX12_rest 261 = .ok (.iload 11, 2) := by decide +kernel
theorem dX12_rest_263 : decode cX12_rest 263 = .ok (.if_icmp .gt 8, 3) := by decide +kernel
theorem dX12_rest_266 : decode cX12_rest 266 = .ok (.iload 7, 2) := by decide +kernel
theorem dX12_rest_268 : decode cX12_rest 268 = .ok (.goto 5, 3) := by decide +kernel
theorem dX12_rest_271 : decode cX12_rest 271 = .ok (.iload 8, 2) := by decide +kernel
theorem dX12_rest_273 : decode cX12_rest 273 = .ok (.iastore, 1) := by decide +kernel
theorem dX12_rest_274 : decode cX12_rest 274 = .ok (.iload 10, 2) := by decide +kernel
theorem dX12_rest_276 : decode cX12_rest 276 = .ok (.iload 11, 2) := by decide +kernel
theorem dX12_rest_278 : decode cX12_rest 278 = .ok (.if_icmp .gt 9, 3) := by decide +kernel
theorem dX12_rest_281 : decode cX12_rest 281 = .ok (.iinc 7 1, 3) := by decide +kernel
theorem dX12_rest_284 : decode cX12_rest 284 = .ok (.goto 6, 3) := by decide +kernel
theorem dX12_rest_287 : decode cX12_rest 287 = .ok (.iinc 8 1, 3) := by decide +kernel
theorem dX12_rest_290 : decode cX12_rest 290 = .ok (.iinc 9 1, 3) := by decide +kernel
theorem dX12_rest_293 : decode cX12_rest 293 = .ok (.goto (-266), 3) := by decide +kernel
theorem dX12_rest_296 : decode cX12_rest 296 = .ok (.aload_n 0, 1) := by decide +kernel
theorem dX12_rest_297 : decode cX12_rest 297 = .ok (.getfield 64, 3) := by decide +kernel
theorem dX12_rest_300 : decode cX12_rest 300 = .ok (.bipush 64, 2) := by decide +kernel
theorem dX12_rest_302 : decode cX12_rest 302 = .ok (.iload_n 2, 1) := by decide +kernel
theorem dX12_rest_303 : decode cX12_rest 303 = .ok (.imul, 1) := by decide +kernel
theorem dX12_rest_304 : decode cX12_rest 304 = .ok (.iload_n 3, 1) := by decide +kernel
theorem dX12_rest_305 : decode cX12_rest 305 = .ok (.iadd, 1) := by decide +kernel
theorem dX12_rest_306 : decode cX12_rest 306 = .ok (.iload 9, 2) := by decide +kernel
theorem dX12_rest_308 : decode cX12_rest 308 = .ok (.iastore, 1) := by decide +kernel
theorem dX12_rest_309 : decode cX12_rest 309 = .ok (.return_, 1) := by decide +kernel
theorem dX12_tells_0 : decode cX12_tells 0 = .ok (.aload_n 0, 1) := by decide +kernel
theorem dX12_tells_1 : decode cX12_tells 1 = .ok (.getfield 49, 3) := by decide +kernel
theorem dX12_tells_4 : decode cX12_tells 4 = .ok (.iload 5, 2) := by decide +kernel
theorem dX12_tells_6 : decode cX12_tells 6 = .ok (.aload_n 0, 1) := by decide +kernel
theorem dX12_tells_7 : decode cX12_tells 7 = .ok (.getfield 68, 3) := by decide +kernel
theorem dX12_tells_10 : decode cX12_tells 10 = .ok (.bipush 8, 2) := by decide +kernel
theorem dX12_tells_12 : decode cX12_tells 12 = .ok (.iload_n 3, 1) := by decide +kernel
theorem dX12_tells_13 : decode cX12_tells 13 = .ok (.imul, 1) := by decide +kernel
theorem dX12_tells_14 : decode cX12_tells 14 = .ok (.iload 4, 2) := by decide +kernel
theorem dX12_tells_16 : decode cX12_tells 16 = .ok (.iadd, 1) := by decide +kernel
theorem dX12_tells_17 : decode cX12_tells 17 = .ok (.iaload, 1) := by decide +kernel
theorem dX12_tells_18 : decode cX12_tells 18 = .ok (.iastore, 1) := by decide +kernel
theorem dX12_tells_19 : decode cX12_tells 19 = .ok (.aload_n 0, 1) := by decide +kernel
theorem dX12_tells_20 : decode cX12_tells 20 = .ok (.getfield 52, 3) := by decide +kernel
theorem dX12_tells_23 : decode cX12_tells 23 = .ok (.iload 5, 2) := by decide +kernel
theorem dX12_tells_25 : decode cX12_tells 25 = .ok (.iload_n 3, 1) := by decide +kernel
theorem dX12_tells_26 : decode cX12_tells 26 = .ok (.iastore, 1) := by decide +kernel
theorem dX12_tells_27 : decode cX12_tells 27 = .ok (.aload_n 0, 1) := by decide +kernel
theorem dX12_tells_28 : decode cX12_tells 28 = .ok (.getfield 55, 3) := by decide +kernel
theorem dX12_tells_31 : decode cX12_tells 31 = .ok (.iload 5, 2) := by decide +kernel
theorem dX12_tells_33 : decode cX12_tells 33 = .ok (.iload_n 2, 1) := by decide +kernel
theorem dX12_tells_34 : decode cX12_tells 34 = .ok (.iastore, 1) := by decide +kernel
theorem dX12_tells_35 : decode cX12_tells 35 = .ok (.iload_n 3, 1) := by decide +kernel
theorem dX12_tells_36 : decode cX12_tells 36 = .ok (.istore 6, 2) := by decide +kernel
theorem dX12_tells_38 : decode cX12_tells 38 = .ok (.iload 4, 2) := by decide +kernel
theorem dX12_tells_40 : decode cX12_tells 40 = .ok (.istore 7, 2) := by decide +kernel
theorem dX12_tells_42 : decode cX12_tells 42 = .ok (.iconst 0, 1) := by decide +kernel
theorem dX12_tells_43 : decode cX12_tells 43 = .ok (.istore 8, 2) := by decide +kernel
theorem dX12_tells_45 : decode cX12_tells 45 = .ok (.iload 8, 2) := by decide +kernel
theorem dX12_tells_47 : decode cX12_tells 47 = .ok (.iload_n 2, 1) := by decide +kernel
theorem dX12_tells_48 : decode cX12_tells 48 = .ok (.if_icmp .ge 72, 3) := by decide +kernel
theorem dX12_tells_51 : decode cX12_tells 51 = .ok (.sipush 512, 3) := by decide +kernel
theorem dX12_tells_54 : decode cX12_tells 54 = .ok (.iload 8, 2) := by decide +kernel
theorem dX12_tells_56 : decode cX12_tells 56 = .ok (.imul, 1) := by decide +kernel
theorem dX12_tells_57 : decode cX12_tells 57 = .ok (.bipush 8, 2) := by decide +kernel
theorem dX12_tells_59 : decode cX12_tells 59 = .ok (.iload 6, 2) := by decide +kernel
theorem dX12_tells_61 : decode cX12_tells 61 = .ok (.imul, 1) := by decide +kernel
theorem dX12_tells_62 : decode cX12_tells 62 = .ok (.iadd, 1) := by decide +kernel
theorem dX12_tells_63 : decode cX12_tells 63 = .ok (.iload 7, 2) := by decide +kernel
theorem dX12_tells_65 : decode cX12_tells 65 = .ok (.iadd, 1) := by decide +kernel
theorem dX12_tells_66 : decode cX12_tells 66 = .ok (.istore 9, 2) := by decide +kernel
theorem dX12_tells_68 : decode cX12_tells 68 = .ok (.aload_n 0, 1) := by decide +kernel
theorem dX12_tells_69 : decode cX12_tells 69 = .ok (.getfield 46, 3) := by decide +kernel
theorem dX12_tells_72 : decode cX12_tells 72 = .ok (.sipush 200, 3) := by decide +kernel
theorem dX12_tells_75 : decode cX12_tells 75 = .ok (.iload 5, 2) := by decide +kernel
theorem dX12_tells_77 : decode cX12_tells 77 = .ok (.imul, 1) := by decide +kernel
theorem dX12_tells_78 : decode cX12_tells 78 = .ok (.iload 8, 2) := by decide +kernel
theorem dX12_tells_80 : decode cX12_tells 80 = .ok (.iadd, 1) := by decide +kernel
theorem dX12_tells_81 : decode cX12_tells 81 = .ok (.aload_n 0, 1) := by decide +kernel
theorem dX12_tells_82 : decode cX12_tells 82 = .ok (.getfield 71, 3) := by decide +kernel
theorem dX12_tells_85 : decode cX12_tells 85 = .ok (.iload 9, 2) := by decide +kernel
theorem dX12_tells_87 : decode cX12_tells 87 = .ok (.iaload, 1) := by decide +kernel
theorem dX12_tells_88 : decode cX12_tells 88 = .ok (.iastore, 1) := by decide +kernel
theorem dX12_tells_89 : decode cX12_tells 89 = .ok (.aload_n 0, 1) := by decide +kernel
theorem dX12_tells_90 : decode cX12_tells 90 = .ok (.getfield 74, 3) := by decide +kernel
theorem dX12_tells_93 : decode cX12_tells 93 = .ok (.iload 9, 2) := by decide +kernel
theorem dX12_tells_95 : decode cX12_tells 95 = .ok (.iaload, 1) := by decide +kernel
theorem dX12_tells_96 : decode cX12_tells 96 = .ok (.istore 7, 2) := by decide +kernel
theorem dX12_tells_98 : decode cX12_tells 98 = .ok (.aload_n 0, 1) := by decide +kernel
theorem dX12_tells_99 : decode cX12_tells 99 = .ok (.iload_n 1, 1) := by decide +kernel
theorem dX12_tells_100 : decode cX12_tells 100 = .ok (.iload 6, 2) := by decide +kernel
theorem dX12_tells_102 : decode cX12_tells 102 = .ok (.aload_n 0, 1) := by decide +kernel
theorem dX12_tells_103 : decode cX12_tells 103 = .ok (.getfield 71, 3) := by decide +kernel
theorem dX12_tells_106 : decode cX12_tells 106 = .ok (.iload 9, 2) := by decide +kernel
theorem dX12_tells_108 : decode cX12_tells 108 = .ok (.iaload, 1) := by decide +kernel
theorem dX12_tells_109 : decode cX12_tells 109 = .ok (.invokevirtual 181, 3) := by decide +kernel
theorem dX12_tells_112 : decode cX12_tells 112 = .ok (.istore 6, 2) := by decide +kernel
theorem dX12_tells_114 : decode cX12_tells 114 = .ok (.iinc 8 1, 3) := by decide +kernel
theorem dX12_tells_117 : decode cX12_tells 117 = .ok (.goto (-72), 3) := by decide +kernel
theorem dX12_tells_120 : decode cX12_tells 120 = .ok (.return_, 1) := by decide +kernel
theorem dX12_isAhead_0 : decode cX12_isAhead 0 = .ok (.aload_n 0, 1) := by decide +kernel
theorem dX12_isAhead_1 : decode cX12_isAhead 1 = .ok (.getfield 49, 3) := by decide +kernel
theorem dX12_isAhead_4 : decode cX12_isAhead 4 = .ok (.iload_n 1, 1) := by decide +kernel
theorem dX12_isAhead_5 : decode cX12_isAhead 5 = .ok (.iaload, 1) := by decide +kernel
theorem dX12_isAhead_6 : decode cX12_isAhead 6 = .ok (.aload_n 0, 1) := by decide +kernel
theorem dX12_isAhead_7 : decode cX12_isAhead 7 = .ok (.getfield 49, 3) := by decide +kernel
theorem dX12_isAhead_10 : decode cX12_isAhead 10 = .ok (.iload_n 2, 1) := by decide +kernel
theorem dX12_isAhead_11 : decode cX12_isAhead 11 = .ok (.iaload, 1) := by decide +kernel
theorem dX12_isAhead_12 : decode cX12_isAhead 12 = .ok (.if_icmp .eq 24, 3) := by decide +kernel
theorem dX12_isAhead_15 : decode cX12_isAhead 15 = .ok (.aload_n 0, 1) := by decide +kernel
theorem dX12_isAhead_16 : decode cX12_isAhead 16 = .ok (.getfield 49, 3) := by decide +kernel
theorem dX12_isAhead_19 : decode cX12_isAhead 19 = .ok (.iload_n 1, 1) := by decide +kernel
theorem dX12_isAhead_20 : decode cX12_isAhead 20 = .ok (.iaload, 1) := by decide +kernel
theorem dX12_isAhead_21 : decode cX12_isAhead 21 = .ok (.aload_n 0, 1) := by decide +kernel
theorem dX12_isAhead_22 : decode cX12_isAhead 22 = .ok (.getfield 49, 3) := by decide +kernel
theorem dX12_isAhead_25 : decode cX12_isAhead 25 = .ok (.iload_n 2, 1) := by decide +kernel
theorem dX12_isAhead_26 : decode cX12_isAhead 26 = .ok (.iaload, 1) := by decide +kernel
theorem dX12_isAhead_27 : decode cX12_isAhead 27 = .ok (.if_icmp .ge 7, 3) := by decide +kernel
theorem dX12_isAhead_30 : decode cX12_isAhead 30 = .ok (.iconst 1, 1) := by decide +kernel
theorem dX12_isAhead_31 : decode cX12_isAhead 31 = .ok (.goto 4, 3) := by decide +kernel
theorem dX12_isAhead_34 : decode cX12_isAhead 34 = .ok (.iconst 0, 1) := by decide +kernel
theorem dX12_isAhead_35 : decode cX12_isAhead 35 = .ok (.ireturn, 1) := by decide +kernel
theorem dX12_isAhead_36 : decode cX12_isAhead 36 = .ok (.iconst 0, 1) := by decide +kernel
theorem dX12_isAhead_37 : decode cX12_isAhead 37 = .ok (.istore 4, 2) := by decide +kernel
theorem dX12_isAhead_39 : decode cX12_isAhead 39 = .ok (.iload 4, 2) := by decide +kernel
theorem dX12_isAhead_41 : decode cX12_isAhead 41 = .ok (.iload_n 3, 1) := by decide +kernel
theorem dX12_isAhead_42 : decode cX12_isAhead 42 = .ok (.if_icmp .ge 73, 3) := by decide +kernel
theorem dX12_isAhead_45 : decode cX12_isAhead 45 = .ok (.aload_n 0, 1) := by decide +kernel
theorem dX12_isAhead_46 : decode cX12_isAhead 46 = .ok (.getfield 46, 3) := by decide +kernel
theorem dX12_isAhead_49 : decode cX12_isAhead 49 = .ok (.sipush 200, 3) := by decide +kernel
theorem dX12_isAhead_52 : decode cX12_isAhead 52 = .ok (.iload_n 1, 1) := by decide +kernel
theorem dX12_isAhead_53 : decode cX12_isAhead 53 = .ok (.imul, 1) := by decide +kernel
theorem dX12_isAhead_54 : decode cX12_isAhead 54 = .ok (.iload 4, 2) := by decide +kernel
theorem dX12_isAhead_56 : decode cX12_isAhead 56 = .ok (.iadd, 1) := by decide +kernel
theorem dX12_isAhead_57 : decode cX12_isAhead 57 = .ok (.iaload, 1) := by decide +kernel
theorem dX12_isAhead_58 : decode cX12_isAhead 58 = .ok (.aload_n 0, 1) := by decide +kernel
theorem dX12_isAhead_59 : decode cX12_isAhead 59 = .ok (.getfield 46, 3) := by decide +kernel
theorem dX12_isAhead_62 : decode cX12_isAhead 62 = .ok (.sipush 200, 3) := by decide +kernel
theorem dX12_isAhead_65 : decode cX12_isAhead 65 = .ok (.iload_n 2, 1) := by decide +kernel
theorem dX12_isAhead_66 : decode cX12_isAhead 66 = .ok (.imul, 1) := by decide +kernel
theorem dX12_isAhead_67 : decode cX12_isAhead 67 = .ok (.iload 4, 2) := by decide +kernel
theorem dX12_isAhead_69 : decode cX12_isAhead 69 = .ok (.iadd, 1) := by decide +kernel
theorem dX12_isAhead_70 : decode cX12_isAhead 70 = .ok (.iaload, 1) := by decide +kernel
theorem dX12_isAhead_71 : decode cX12_isAhead 71 = .ok (.if_icmp .eq 38, 3) := by decide +kernel
theorem dX12_isAhead_74 : decode cX12_isAhead 74 = .ok (.aload_n 0, 1) := by decide +kernel
theorem dX12_isAhead_75 : decode cX12_isAhead 75 = .ok (.getfield 46, 3) := by decide +kernel
theorem dX12_isAhead_78 : decode cX12_isAhead 78 = .ok (.sipush 200, 3) := by decide +kernel
theorem dX12_isAhead_81 : decode cX12_isAhead 81 = .ok (.iload_n 1, 1) := by decide +kernel
theorem dX12_isAhead_82 : decode cX12_isAhead 82 = .ok (.imul, 1) := by decide +kernel
theorem dX12_isAhead_83 : decode cX12_isAhead 83 = .ok (.iload 4, 2) := by decide +kernel
theorem dX12_isAhead_85 : decode cX12_isAhead 85 = .ok (.iadd, 1) := by decide +kernel
theorem dX12_isAhead_86 : decode cX12_isAhead 86 = .ok (.iaload, 1) := by decide +kernel
theorem dX12_isAhead_87 : decode cX12_isAhead 87 = .ok (.aload_n 0, 1) := by decide +kernel
theorem dX12_isAhead_88 : decode cX12_isAhead 88 = .ok (.getfield 46, 3) := by decide +kernel
theorem dX12_isAhead_91 : decode cX12_isAhead 91 = .ok (.sipush 200, 3) := by decide +kernel
theorem dX12_isAhead_94 : decode cX12_isAhead 94 = .ok (.iload_n 2, 1) := by decide +kernel
theorem dX12_isAhead_95 : decode cX12_isAhead 95 = .ok (.imul, 1) := by decide +kernel
theorem dX12_isAhead_96 : decode cX12_isAhead 96 = .ok (.iload 4, 2) := by decide +kernel
theorem dX12_isAhead_98 : decode cX12_isAhead 98 = .ok (.iadd, 1) := by decide +kernel
theorem dX12_isAhead_99 : decode cX12_isAhead 99 = .ok (.iaload, 1) := by decide +kernel
theorem dX12_isAhead_100 : decode cX12_isAhead 100 = .ok (.if_icmp .ge 7, 3) := by decide +kernel
theorem dX12_isAhead_103 : decode cX12_isAhead 103 = .ok (.iconst 1, 1) := by decide +kernel
theorem dX12_isAhead_104 : decode cX12_isAhead 104 = .ok (.goto 4, 3) := by decide +kernel
theorem dX12_isAhead_107 : decode cX12_isAhead 107 = .ok (.iconst 0, 1) := by decide +kernel
theorem dX12_isAhead_108 : decode cX12_isAhead 108 = .ok (.ireturn, 1) := by decide +kernel
theorem dX12_isAhead_109 : decode cX12_isAhead 109 = .ok (.iinc 4 1, 3) := by decide +kernel
theorem dX12_isAhead_112 : decode cX12_isAhead 112 = .ok (.goto (-73), 3) := by decide +kernel
theorem dX12_isAhead_115 : decode cX12_isAhead 115 = .ok (.aload_n 0, 1) := by decide +kernel
theorem dX12_isAhead_116 : decode cX12_isAhead 116 = .ok (.getfield 52, 3) := by decide +kernel
theorem dX12_isAhead_119 : decode cX12_isAhead 119 = .ok (.iload_n 1, 1) := by decide +kernel
theorem dX12_isAhead_120 : decode cX12_isAhead 120 = .ok (.iaload, 1) := by decide +kernel
theorem dX12_isAhead_121 : decode cX12_isAhead 121 = .ok (.aload_n 0, 1) := by decide +kernel
theorem dX12_isAhead_122 : decode cX12_isAhead 122 = .ok (.getfield 52, 3) := by decide +kernel
theorem dX12_isAhead_125 : decode cX12_isAhead 125 = .ok (.iload_n 2, 1) := by decide +kernel
theorem dX12_isAhead_126 : decode cX12_isAhead 126 = .ok (.iaload, 1) := by decide +kernel
theorem dX12_isAhead_127 : decode cX12_isAhead 127 = .ok (.if_icmp .ge 7, 3) := by decide +kernel
theorem dX12_isAhead_130 : decode cX12_isAhead 130 = .ok (.iconst 1, 1) := by decide +kernel
theorem dX12_isAhead_131 : decode cX12_isAhead 131 = .ok (.goto 4, 3) := by decide +kernel
theorem dX12_isAhead_134 : decode cX12_isAhead 134 = .ok (.iconst 0, 1) := by decide +kernel
theorem dX12_isAhead_135 : decode cX12_isAhead 135 = .ok (.ireturn, 1) := by decide +kernel
theorem dX12_exchange_0 : decode cX12_exchange 0 = .ok (.iconst 0, 1) := by decide +kernel
theorem dX12_exchange_1 : decode cX12_exchange 1 = .ok (.istore_n 3, 1) := by decide +kernel
theorem dX12_exchange_2 : decode cX12_exchange 2 = .ok (.iload_n 3, 1) := by decide +kernel
theorem dX12_exchange_3 : decode cX12_exchange 3 = .ok (.sipush 200, 3) := by decide +kernel
theorem dX12_exchange_6 : decode cX12_exchange 6 = .ok (.if_icmp .ge 61, 3) := by decide +kernel
theorem dX12_exchange_9 : decode cX12_exchange 9 = .ok (.aload_n 0, 1) := by decide +kernel
theorem dX12_exchange_10 : decode cX12_exchange 10 = .ok (.getfield 46, 3) := by decide +kernel
theorem dX12_exchange_13 : decode cX12_exchange 13 = .ok (.sipush 200, 3) := by decide +kernel
theorem dX12_exchange_16 : decode cX12_exchange 16 = .ok (.iload_n 1, 1) := by decide +kernel
theorem dX12_exchange_17 : decode cX12_exchange 17 = .ok (.imul, 1) := by decide +kernel
theorem dX12_exchange_18 : decode cX12_exchange 18 = .ok (.iload_n 3, 1) := by decide +kernel
theorem dX12_exchange_19 : decode cX12_exchange 19 = .ok (.iadd, 1) := by decide +kernel
theorem dX12_exchange_20 : decode cX12_exchange 20 = .ok (.iaload, 1) := by decide +kernel
theorem dX12_exchange_21 : decode cX12_exchange 21 = .ok (.istore 4, 2) := by decide +kernel
theorem dX12_exchange_23 : decode cX12_exchange 23 = .ok (.aload_n 0, 1) := by decide +kernel
theorem dX12_exchange_24 : decode cX12_exchange 24 = .ok (.getfield 46, 3) := by decide +kernel
theorem dX12_exchange_27 : decode cX12_exchange 27 = .ok (.sipush 200, 3) := by decide +kernel
theorem dX12_exchange_30 : decode cX12_exchange 30 = .ok (.iload_n 1, 1) := by decide +kernel
theorem dX12_exchange_31 : decode cX12_exchange 31 = .ok (.imul, 1) := by decide +kernel
theorem dX12_exchange_32 : decode cX12_exchange 32 = .ok (.iload_n 3, 1) := by decide +kernel
theorem dX12_exchange_33 : decode cX12_exchange 33 = .ok (.iadd, 1) := by decide +kernel
theorem dX12_exchange_34 : decode cX12_exchange 34 = .ok (.aload_n 0, 1) := by decide +kernel
theorem dX12_exchange_35 : decode cX12_exchange 35 = .ok (.getfield 46, 3) := by decide +kernel
theorem dX12_exchange_38 : decode cX12_exchange 38 = .ok (.sipush 200, 3) := by decide +kernel
theorem dX12_exchange_41 : decode cX12_exchange 41 = .ok (.iload_n 2, 1) := by decide +kernel
theorem dX12_exchange_42 : decode cX12_exchange 42 = .ok (.imul, 1) := by decide +kernel
theorem dX12_exchange_43 : decode cX12_exchange 43 = .ok (.iload_n 3, 1) := by decide +kernel
theorem dX12_exchange_44 : decode cX12_exchange 44 = .ok (.iadd, 1) := by decide +kernel
theorem dX12_exchange_45 : decode cX12_exchange 45 = .ok (.iaload, 1) := by decide +kernel
theorem dX12_exchange_46 : decode cX12_exchange 46 = .ok (.iastore, 1) := by decide +kernel
theorem dX12_exchange_47 : decode cX12_exchange 47 = .ok (.aload_n 0, 1) := by decide +kernel
theorem dX12_exchange_48 : decode cX12_exchange 48 = .ok (.getfield 46, 3) := by decide +kernel
theorem dX12_exchange_51 : decode cX12_exchange 51 = .ok (.sipush 200, 3) := by decide +kernel
theorem dX12_exchange_54 : decode cX12_exchange 54 = .ok (.iload_n 2, 1) := by decide +kernel
theorem dX12_exchange_55 : decode cX12_exchange 55 = .ok (.imul, 1) := by decide +kernel
theorem dX12_exchange_56 : decode cX12_exchange 56 = .ok (.iload_n 3, 1) := by decide +kernel
theorem dX12_exchange_57 : decode cX12_exchange 57 = .ok (.iadd, 1) := by decide +kernel
theorem dX12_exchange_58 : decode cX12_exchange 58 = .ok (.iload 4, 2) := by decide +kernel
theorem dX12_exchange_60 : decode cX12_exchange 60 = .ok (.iastore, 1) := by decide +kernel
theorem dX12_exchange_61 : decode cX12_exchange 61 = .ok (.iinc 3 1, 3) := by decide +kernel
theorem dX12_exchange_64 : decode cX12_exchange 64 = .ok (.goto (-62), 3) := by decide +kernel
theorem dX12_exchange_67 : decode cX12_exchange 67 = .ok (.aload_n 0, 1) := by decide +kernel
theorem dX12_exchange_68 : decode cX12_exchange 68 = .ok (.getfield 49, 3) := by decide +kernel
theorem dX12_exchange_71 : decode cX12_exchange 71 = .ok (.iload_n 1, 1) := by decide +kernel
theorem dX12_exchange_72 : decode cX12_exchange 72 = .ok (.iaload, 1) := by decide +kernel
theorem dX12_exchange_73 : decode cX12_exchange 73 = .ok (.istore_n 3, 1) := by decide +kernel
theorem dX12_exchange_74 : decode cX12_exchange 74 = .ok (.aload_n 0, 1) := by decide +kernel
theorem dX12_exchange_75 : decode cX12_exchange 75 = .ok (.getfield 49, 3) := by decide +kernel
theorem dX12_exchange_78 : decode cX12_exchange 78 = .ok (.iload_n 1, 1) := by decide +kernel
theorem dX12_exchange_79 : decode cX12_exchange 79 = .ok (.aload_n 0, 1) := by decide +kernel
theorem dX12_exchange_80 : decode cX12_exchange 80 = .ok (.getfield 49, 3) := by decide +kernel
theorem dX12_exchange_83 : decode cX12_exchange 83 = .ok (.iload_n 2, 1) := by decide +kernel
theorem dX12_exchange_84 : decode cX12_exchange 84 = .ok (.iaload, 1) := by decide +kernel
theorem dX12_exchange_85 : decode cX12_exchange 85 = .ok (.iastore, 1) := by decide +kernel
theorem dX12_exchange_86 : decode cX12_exchange 86 = .ok (.aload_n 0, 1) := by decide +kernel
theorem dX12_exchange_87 : decode cX12_exchange 87 = .ok (.getfield 49, 3) := by decide +kernel
theorem dX12_exchange_90 : decode cX12_exchange 90 = .ok (.iload_n 2, 1) := by decide +kernel
theorem dX12_exchange_91 : decode cX12_exchange 91 = .ok (.iload_n 3, 1) := by decide +kernel
theorem dX12_exchange_92 : decode cX12_exchange 92 = .ok (.iastore, 1) := by decide +kernel
theorem dX12_exchange_93 : decode cX12_exchange 93 = .ok (.aload_n 0, 1) := by decide +kernel
theorem dX12_exchange_94 : decode cX12_exchange 94 = .ok (.getfield 52, 3) := by decide +kernel
theorem dX12_exchange_97 : decode cX12_exchange 97 = .ok (.iload_n 1, 1) := by decide +kernel
theorem dX12_exchange_98 : decode cX12_exchange 98 = .ok (.iaload, 1) := by decide +kernel
theorem dX12_exchange_99 : decode cX12_exchange 99 = .ok (.istore_n 3, 1) := by decide +kernel
theorem dX12_exchange_100 : decode cX12_exchange 100 = .ok (.aload_n 0, 1) := by decide +kernel
theorem dX12_exchange_101 : decode cX12_exchange 101 = .ok (.getfield 52, 3) := by decide +kernel
theorem dX12_exchange_104 : decode cX12_exchange 104 = .ok (.iload_n 1, 1) := by decide +kernel
theorem dX12_exchange_105 : decode cX12_exchange 105 = .ok (.aload_n 0, 1) := by decide +kernel
theorem dX12_exchange_106 : decode cX12_exchange 106 = .ok (.getfield 52, 3) := by decide +kernel
theorem dX12_exchange_109 : decode cX12_exchange 109 = .ok (.iload_n 2, 1) := by decide +kernel
theorem dX12_exchange_110 : decode cX12_exchange 110 = .ok (.iaload, 1) := by decide +kernel
theorem dX12_exchange_111 : decode cX12_exchange 111 = .ok (.iastore, 1) := by decide +kernel
theorem dX12_exchange_112 : decode cX12_exchange 112 = .ok (.aload_n 0, 1) := by decide +kernel
theorem dX12_exchange_113 : decode cX12_exchange 113 = .ok (.getfield 52, 3) := by decide +kernel
theorem dX12_exchange_116 : decode cX12_exchange 116 = .ok (.iload_n 2, 1) := by decide +kernel
theorem dX12_exchange_117 : decode cX12_exchange 117 = .ok (.iload_n 3, 1) := by decide +kernel
theorem dX12_exchange_118 : decode cX12_exchange 118 = .ok (.iastore, 1) := by decide +kernel
theorem dX12_exchange_119 : decode cX12_exchange 119 = .ok (.return_, 1) := by decide +kernel
theorem dX12_lists_0 : decode cX12_lists 0 = .ok (.aload_n 0, 1) := by decide +kernel
theorem dX12_lists_1 : decode cX12_lists 1 = .ok (.iload_n 1, 1) := by decide +kernel
theorem dX12_lists_2 : decode cX12_lists 2 = .ok (.iload_n 2, 1) := by decide +kernel
theorem dX12_lists_3 : decode cX12_lists 3 = .ok (.iload_n 3, 1) := by decide +kernel
theorem dX12_lists_4 : decode cX12_lists 4 = .ok (.invokevirtual 218, 3) := by decide +kernel
theorem dX12_lists_7 : decode cX12_lists 7 = .ok (.aload_n 0, 1) := by decide +kernel
theorem dX12_lists_8 : decode cX12_lists 8 = .ok (.iconst 0, 1) := by decide +kernel
theorem dX12_lists_9 : decode cX12_lists 9 = .ok (.putfield 222, 3) := by decide +kernel
theorem dX12_lists_12 : decode cX12_lists 12 = .ok (.aload_n 0, 1) := by decide +kernel
theorem dX12_lists_13 : decode cX12_lists 13 = .ok (.getfield 22, 3) := by decide +kernel
theorem dX12_lists_16 : decode cX12_lists 16 = .ok (.iload_n 1, 1) := by decide +kernel
theorem dX12_lists_17 : decode cX12_lists 17 = .ok (.iaload, 1) := by decide +kernel
theorem dX12_lists_18 : decode cX12_lists 18 = .ok (.iconst 4, 1) := by decide +kernel
theorem dX12_lists_19 : decode cX12_lists 19 = .ok (.if_icmp .eq 52, 3) := by decide +kernel
theorem dX12_lists_22 : decode cX12_lists 22 = .ok (.aload_n 0, 1) := by decide +kernel
theorem dX12_lists_23 : decode cX12_lists 23 = .ok (.iload_n 1, 1) := by decide +kernel
theorem dX12_lists_24 : decode cX12_lists 24 = .ok (.iload_n 3, 1) := by decide +kernel
theorem dX12_lists_25 : decode cX12_lists 25 = .ok (.iload 4, 2) := by decide +kernel
theorem dX12_lists_27 : decode cX12_lists 27 = .ok (.iconst 0, 1) := by decide +kernel
theorem dX12_lists_28 : decode cX12_lists 28 = .ok (.invokevirtual 225, 3) := by decide +kernel
theorem dX12_lists_31 : decode cX12_lists 31 = .ok (.aload_n 0, 1) := by decide +kernel
theorem dX12_lists_32 : decode cX12_lists 32 = .ok (.aload_n 0, 1) := by decide +kernel
theorem dX12_lists_33 : decode cX12_lists 33 = .ok (.getfield 64, 3) := by decide +kernel
theorem dX12_lists_36 : decode cX12_lists 36 = .ok (.iconst 0, 1) := by decide +kernel
theorem dX12_lists_37 : decode cX12_lists 37 = .ok (.iaload, 1) := by decide +kernel
theorem dX12_lists_38 : decode cX12_lists 38 = .ok (.putfield 222, 3) := by decide +kernel
theorem dX12_lists_41 : decode cX12_lists 41 = .ok (.iconst 0, 1) := by decide +kernel
theorem dX12_lists_42 : decode cX12_lists 42 = .ok (.istore 5, 2) := by decide +kernel
theorem dX12_lists_44 : decode cX12_lists 44 = .ok (.iload 5, 2) := by decide +kernel
theorem dX12_lists_46 : decode cX12_lists 46 = .ok (.aload_n 0, 1) := by decide +kernel
theorem dX12_lists_47 : decode cX12_lists 47 = .ok (.getfield 222, 3) := by decide +kernel
theorem dX12_lists_50 : decode cX12_lists 50 = .ok (.if_icmp .ge 20, 3) := by decide +kernel
theorem dX12_lists_53 : decode cX12_lists 53 = .ok (.aload_n 0, 1) := by decide +kernel
theorem dX12_lists_54 : decode cX12_lists 54 = .ok (.iload_n 1, 1) := by decide +kernel
theorem dX12_lists_55 : decode cX12_lists 55 = .ok (.iload_n 3, 1) := by decide +kernel
theorem dX12_lists_56 : decode cX12_lists 56 = .ok (.iconst 0, 1) := by decide +kernel
theorem dX12_lists_57 : decode cX12_lists 57 = .ok (.iload 5, 2) := by decide +kernel
theorem dX12_lists_59 : decode cX12_lists 59 = .ok (.iload 5, 2) := by decide +kernel
theorem dX12_lists_61 : decode cX12_lists 61 = .ok (.invokevirtual 228, 3) := by decide +kernel
theorem dX12_lists_64 : decode cX12_lists 64 = .ok (.iinc 5 1, 3) := by decide +kernel
theorem dX12_lists_67 : decode cX12_lists 67 = .ok (.goto (-23), 3) := by decide +kernel
theorem dX12_lists_70 : decode cX12_lists 70 = .ok (.return_, 1) := by decide +kernel
theorem dX12_lists_71 : decode cX12_lists 71 = .ok (.iconst 0, 1) := by decide +kernel
theorem dX12_lists_72 : decode cX12_lists 72 = .ok (.istore 5, 2) := by decide +kernel
theorem dX12_lists_74 : decode cX12_lists 74 = .ok (.iload 5, 2) := by decide +kernel
theorem dX12_lists_76 : decode cX12_lists 76 = .ok (.iconst 1, 1) := by decide +kernel
theorem dX12_lists_77 : decode cX12_lists 77 = .ok (.aload_n 0, 1) := by decide +kernel
theorem dX12_lists_78 : decode cX12_lists 78 = .ok (.getfield 25, 3) := by decide +kernel
theorem dX12_lists_81 : decode cX12_lists 81 = .ok (.iload_n 1, 1) := by decide +kernel
theorem dX12_lists_82 : decode cX12_lists 82 = .ok (.iaload, 1) := by decide +kernel
theorem dX12_lists_83 : decode cX12_lists 83 = .ok (.ishl, 1) := by decide +kernel
theorem dX12_lists_84 : decode cX12_lists 84 = .ok (.if_icmp .ge 62, 3) := by decide +kernel
theorem dX12_lists_87 : decode cX12_lists 87 = .ok (.aload_n 0, 1) := by decide +kernel
theorem dX12_lists_88 : decode cX12_lists 88 = .ok (.iload_n 1, 1) := by decide +kernel
theorem dX12_lists_89 : decode cX12_lists 89 = .ok (.iload_n 3, 1) := by decide +kernel
theorem dX12_lists_90 : decode cX12_lists 90 = .ok (.iload 4, 2) := by decide +kernel
theorem dX12_lists_92 : decode cX12_lists 92 = .ok (.iload 5, 2) := by decide +kernel
theorem dX12_lists_94 : decode cX12_lists 94 = .ok (.invokevirtual 225, 3) := by decide +kernel
theorem dX12_lists_97 : decode cX12_lists 97 = .ok (.iconst 1, 1) := by decide +kernel
theorem dX12_lists_98 : decode cX12_lists 98 = .ok (.istore 6, 2) := by decide +kernel
theorem dX12_lists_100 : decode cX12_lists 100 = .ok (.iconst 0, 1) := by decide +kernel
theorem dX12_lists_101 : decode cX12_lists 101 = .ok (.istore 7, 2) := by decide +kernel
theorem dX12_lists_103 : decode cX12_lists 103 = .ok (.iload 7, 2) := by decide +kernel
theorem dX12_lists_105 : decode cX12_lists 105 = .ok (.aload_n 0, 1) := by decide +kernel
theorem dX12_lists_106 : decode cX12_lists 106 = .ok (.getfield 64, 3) := by decide +kernel
theorem dX12_lists_109 : decode cX12_lists 109 = .ok (.iload 5, 2) := by decide +kernel
theorem dX12_lists_111 : decode cX12_lists 111 = .ok (.iaload, 1) := by decide +kernel
theorem dX12_lists_112 : decode cX12_lists 112 = .ok (.if_icmp .ge 28, 3) := by decide +kernel
theorem dX12_lists_115 : decode cX12_lists 115 = .ok (.iload 6, 2) := by decide +kernel
theorem dX12_lists_117 : decode cX12_lists 117 = .ok (.ifCond .eq 23, 3) := by decide +kernel
theorem dX12_lists_120 : decode cX12_lists 120 = .ok (.aload_n 0, 1) := by decide +kernel
theorem dX12_lists_121 : decode cX12_lists 121 = .ok (.iload_n 1, 1) := by decide +kernel
theorem dX12_lists_122 : decode cX12_lists 122 = .ok (.iload_n 3, 1) := by decide +kernel
theorem dX12_lists_123 : decode cX12_lists 123 = .ok (.iload 5, 2) := by decide +kernel
theorem dX12_lists_125 : decode cX12_lists 125 = .ok (.iload 7, 2) := by decide +kernel
theorem dX12_lists_127 : decode cX12_lists 127 = .ok (.iload 4, 2) := by decide +kernel
theorem dX12_lists_129 : decode cX12_lists 129 = .ok (.invokevirtual 232, 3) := by decide +kernel
theorem dX12_lists_132 : decode cX12_lists 132 = .ok (.istore 6, 2) := by decide +kernel
theorem dX12_lists_134 : decode cX12_lists 134 = .ok (.iinc 7 1, 3) := by decide +kernel
theorem dX12_lists_137 : decode cX12_lists 137 = .ok (.goto (-34), 3) := by decide +kernel
theorem dX12_lists_140 : decode cX12_lists 140 = .ok (.iinc 5 1, 3) := by decide +kernel
theorem dX12_lists_143 : decode cX12_lists 143 = .ok (.goto (-69), 3) := by decide +kernel
theorem dX12_lists_146 : decode cX12_lists 146 = .ok (.return_, 1) := by decide +kernel
theorem dX12_joins_0 : decode cX12_joins 0 = .ok (.aload_n 0, 1) := by decide +kernel
theorem dX12_joins_1 : decode cX12_joins 1 = .ok (.getfield 68, 3) := by decide +kernel
theorem dX12_joins_4 : decode cX12_joins 4 = .ok (.bipush 8, 2) := by decide +kernel
theorem dX12_joins_6 : decode cX12_joins 6 = .ok (.iload_n 3, 1) := by decide +kernel
theorem dX12_joins_7 : decode cX12_joins 7 = .ok (.imul, 1) := by decide +kernel
theorem dX12_joins_8 : decode cX12_joins 8 = .ok (.iload 4, 2) := by decide +kernel
theorem dX12_joins_10 : decode cX12_joins 10 = .ok (.iadd, 1) := by decide +kernel
theorem dX12_joins_11 : decode cX12_joins 11 = .ok (.iaload, 1) := by decide +kernel
theorem dX12_joins_12 : decode cX12_joins 12 = .ok (.istore 6, 2) := by decide +kernel
theorem dX12_joins_14 : decode cX12_joins 14 = .ok (.aload_n 0, 1) := by decide +kernel
theorem dX12_joins_15 : decode cX12_joins 15 = .ok (.getfield 222, 3) := by decide +kernel
theorem dX12_joins_18 : decode cX12_joins 18 = .ok (.iload 5, 2) := by decide +kernel
theorem dX12_joins_20 : decode cX12_joins 20 = .ok (.if_icmp .ne 19, 3) := by decide +kernel
theorem dX12_joins_23 : decode cX12_joins 23 = .ok (.iload 6, 2) := by decide +kernel
theorem dX12_joins_25 : decode cX12_joins 25 = .ok (.aload_n 0, 1) := by decide +kernel
theorem dX12_joins_26 : decode cX12_joins 26 = .ok (.getfield 49, 3) := by decide +kernel
theorem dX12_joins_29 : decode cX12_joins 29 = .ok (.iload 5, 2) := by decide +kernel
theorem dX12_joins_31 : decode cX12_joins 31 = .ok (.iconst 1, 1) := by decide +kernel
theorem dX12_joins_32 : decode cX12_joins 32 = .ok (.isub, 1) := by decide +kernel
theorem dX12_joins_33 : decode cX12_joins 33 = .ok (.iaload, 1) := by decide +kernel
theorem dX12_joins_34 : decode cX12_joins 34 = .ok (.if_icmp .le 5, 3) := by decide +kernel
theorem dX12_joins_37 : decode cX12_joins 37 = .ok (.iconst 0, 1) := by decide +kernel
theorem dX12_joins_38 : decode cX12_joins 38 = .ok (.ireturn, 1) := by decide +kernel
theorem dX12_joins_39 : decode cX12_joins 39 = .ok (.aload_n 0, 1) := by decide +kernel
theorem dX12_joins_40 : decode cX12_joins 40 = .ok (.getfield 222, 3) := by decide +kernel
theorem dX12_joins_43 : decode cX12_joins 43 = .ok (.iload 5, 2) := by decide +kernel
theorem dX12_joins_45 : decode cX12_joins 45 = .ok (.if_icmp .ne 35, 3) := by decide +kernel
theorem dX12_joins_48 : decode cX12_joins 48 = .ok (.iload 6, 2) := by decide +kernel
theorem dX12_joins_50 : decode cX12_joins 50 = .ok (.aload_n 0, 1) := by decide +kernel
theorem dX12_joins_51 : decode cX12_joins 51 = .ok (.getfield 49, 3) := by decide +kernel
theorem dX12_joins_54 : decode cX12_joins 54 = .ok (.iload 5, 2) := by decide +kernel
theorem dX12_joins_56 : decode cX12_joins 56 = .ok (.iconst 1, 1) := by decide +kernel
theorem dX12_joins_57 : decode cX12_joins 57 = .ok (.isub, 1) := by decide +kernel
theorem dX12_joins_58 : decode cX12_joins 58 = .ok (.iaload, 1) := by decide +kernel
theorem dX12_joins_59 : decode cX12_joins 59 = .ok (.if_icmp .ne 21, 3) := by decide +kernel
theorem dX12_joins_62 : decode cX12_joins 62 = .ok (.aload_n 0, 1) := by decide +kernel
theorem dX12_joins_63 : decode cX12_joins 63 = .ok (.iload_n 1, 1) := by decide +kernel
theorem dX12_joins_64 : decode cX12_joins 64 = .ok (.iload_n 2, 1) := by decide +kernel
theorem dX12_joins_65 : decode cX12_joins 65 = .ok (.iload_n 3, 1) := by decide +kernel
theorem dX12_joins_66 : decode cX12_joins 66 = .ok (.iload 4, 2) := by decide +kernel
theorem dX12_joins_68 : decode cX12_joins 68 = .ok (.iload 5, 2) := by decide +kernel
theorem dX12_joins_70 : decode cX12_joins 70 = .ok (.iconst 1, 1) := by decide +kernel
theorem dX12_joins_71 : decode cX12_joins 71 = .ok (.isub, 1) := by decide +kernel
theorem dX12_joins_72 : decode cX12_joins 72 = .ok (.invokevirtual 236, 3) := by decide +kernel
theorem dX12_joins_75 : decode cX12_joins 75 = .ok (.ifCond .ne 5, 3) := by decide +kernel
theorem dX12_joins_78 : decode cX12_joins 78 = .ok (.iconst 0, 1) := by decide +kernel
theorem dX12_joins_79 : decode cX12_joins 79 = .ok (.ireturn, 1) := by decide +kernel
theorem dX12_joins_80 : decode cX12_joins 80 = .ok (.aload_n 0, 1) := by decide +kernel
theorem dX12_joins_81 : decode cX12_joins 81 = .ok (.getfield 222, 3) := by decide +kernel
theorem dX12_joins_84 : decode cX12_joins 84 = .ok (.iload 5, 2) := by decide +kernel
theorem dX12_joins_86 : decode cX12_joins 86 = .ok (.if_icmp .ge 10, 3) := by decide +kernel
theorem dX12_joins_89 : decode cX12_joins 89 = .ok (.aload_n 0, 1) := by decide +kernel
theorem dX12_joins_90 : decode cX12_joins 90 = .ok (.getfield 222, 3) := by decide +kernel
theorem dX12_joins_93 : decode cX12_joins 93 = .ok (.goto 7, 3) := by decide +kernel
theorem dX12_joins_96 : decode cX12_joins 96 = .ok (.iload 5, 2) := by decide +kernel
theorem dX12_joins_98 : decode cX12_joins 98 = .ok (.iconst 1, 1) := by decide +kernel
theorem dX12_joins_99 : decode cX12_joins 99 = .ok (.isub, 1) := by decide +kernel
theorem dX12_joins_100 : decode cX12_joins 100 = .ok (.istore 7, 2) := by decide +kernel
theorem dX12_joins_102 : decode cX12_joins 102 = .ok (.aload_n 0, 1) := by decide +kernel
theorem dX12_joins_103 : decode cX12_joins 103 = .ok (.iload_n 1, 1) := by decide +kernel
theorem dX12_joins_104 : decode cX12_joins 104 = .ok (.iload_n 2, 1) := by decide +kernel
theorem dX12_joins_105 : decode cX12_joins 105 = .ok (.iload_n 3, 1) := by decide +kernel
theorem dX12_joins_106 : decode cX12_joins 106 = .ok (.iload 4, 2) := by decide +kernel
theorem dX12_joins_108 : decode cX12_joins 108 = .ok (.iload 7, 2) := by decide +kernel
theorem dX12_joins_110 : decode cX12_joins 110 = .ok (.invokevirtual 228, 3) := by decide +kernel
theorem dX12_joins_113 : decode cX12_joins 113 = .ok (.aload_n 0, 1) := by decide +kernel
theorem dX12_joins_114 : decode cX12_joins 114 = .ok (.getfield 222, 3) := by decide +kernel
theorem dX12_joins_117 : decode cX12_joins 117 = .ok (.iload 5, 2) := by decide +kernel
theorem dX12_joins_119 : decode cX12_joins 119 = .ok (.if_icmp .ge 13, 3) := by decide +kernel
theorem dX12_joins_122 : decode cX12_joins 122 = .ok (.aload_n 0, 1) := by decide +kernel
theorem dX12_joins_123 : decode cX12_joins 123 = .ok (.dup, 1) := by decide +kernel
theorem dX12_joins_124 : decode cX12_joins 124 = .ok (.getfield 222, 3) := by decide +kernel
theorem dX12_joins_127 : decode cX12_joins 127 = .ok (.iconst 1, 1) := by decide +kernel
theorem dX12_joins_128 : decode cX12_joins 128 = .ok (.iadd, 1) := by decide +kernel
theorem dX12_joins_129 : decode cX12_joins 129 = .ok (.putfield 222, 3) := by decide +kernel
theorem dX12_joins_132 : decode cX12_joins 132 = .ok (.iload 7, 2) := by decide +kernel
theorem dX12_joins_134 : decode cX12_joins 134 = .ok (.ifCond .le 33, 3) := by decide +kernel
theorem dX12_joins_137 : decode cX12_joins 137 = .ok (.aload_n 0, 1) := by decide +kernel
theorem dX12_joins_138 : decode cX12_joins 138 = .ok (.iload 7, 2) := by decide +kernel
theorem dX12_joins_140 : decode cX12_joins 140 = .ok (.iload 7, 2) := by decide +kernel
theorem dX12_joins_142 : decode cX12_joins 142 = .ok (.iconst 1, 1) := by decide +kernel
theorem dX12_joins_143 : decode cX12_joins 143 = .ok (.isub, 1) := by decide +kernel
theorem dX12_joins_144 : decode cX12_joins 144 = .ok (.iload_n 2, 1) := by decide +kernel
theorem dX12_joins_145 : decode cX12_joins 145 = .ok (.invokevirtual 239, 3) := by decide +kernel
theorem dX12_joins_148 : decode cX12_joins 148 = .ok (.ifCond .eq 19, 3) := by decide +kernel
theorem dX12_joins_151 : decode cX12_joins 151 = .ok (.aload_n 0, 1) := by decide +kernel
theorem dX12_joins_152 : decode cX12_joins 152 = .ok (.iload 7, 2) := by decide +kernel
theorem dX12_joins_154 : decode cX12_joins 154 = .ok (.iload 7, 2) := by decide +kernel
theorem dX12_joins_156 : decode cX12_joins 156 = .ok (.iconst 1, 1) := by decide +kernel
theorem dX12_joins_157 : decode cX12_joins 157 = .ok (.isub, 1) := by decide +kernel
theorem dX12_joins_158 : decode cX12_joins 158 = .ok (.invokevirtual 242, 3) := by decide +kernel
theorem dX12_joins_161 : decode cX12_joins 161 = .ok (.iinc 7 (-1), 3) := by decide +kernel
theorem dX12_joins_164 : decode cX12_joins 164 = .ok (.goto (-32), 3) := by decide +kernel
theorem dX12_joins_167 : decode cX12_joins 167 = .ok (.iconst 1, 1) := by decide +kernel
theorem dX12_joins_168 : decode cX12_joins 168 = .ok (.ireturn, 1) := by decide +kernel
theorem dX12_isBefore_0 : decode cX12_isBefore 0 = .ok (.iload_n 3, 1) := by decide +kernel
theorem dX12_isBefore_1 : decode cX12_isBefore 1 = .ok (.istore 6, 2) := by decide +kernel
theorem dX12_isBefore_3 : decode cX12_isBefore 3 = .ok (.iload 4, 2) := by decide +kernel
theorem dX12_isBefore_5 : decode cX12_isBefore 5 = .ok (.istore 7, 2) := by decide +kernel
theorem dX12_isBefore_7 : decode cX12_isBefore 7 = .ok (.iconst 0, 1) := by decide +kernel
theorem dX12_isBefore_8 : decode cX12_isBefore 8 = .ok (.istore 8, 2) := by decide +kernel
theorem dX12_isBefore_10 : decode cX12_isBefore 10 = .ok (.iload 8, 2) := by decide +kernel
theorem dX12_isBefore_12 : decode cX12_isBefore 12 = .ok (.iload_n 2, 1) := by decide +kernel
theorem dX12_isBefore_13 : decode cX12_isBefore 13 = .ok (.if_icmp .ge 65, 3) := by decide +kernel
theorem dX12_isBefore_16 : decode cX12_isBefore 16 = .ok (.sipush 512, 3) := by decide +kernel
theorem dX12_isBefore_19 : decode cX12_isBefore 19 = .ok (.iload 8, 2) := by decide +kernel
theorem dX12_isBefore_21 : decode cX12_isBefore 21 = .ok (.imul, 1) := by decide +kernel
theorem dX12_isBefore_22 : decode cX12_isBefore 22 = .ok (.bipush 8, 2) := by decide +kernel
theorem dX12_isBefore_24 : decode cX12_isBefore 24 = .ok (.iload 6, 2) := by decide +kernel
theorem dX12_isBefore_26 : decode cX12_isBefore 26 = .ok (.imul, 1) := by decide +kernel
theorem dX12_isBefore_27 : decode cX12_isBefore 27 = .ok (.iadd, 1) := by decide +kernel
theorem dX12_isBefore_28 : decode cX12_isBefore 28 = .ok (.iload 7, 2) := by decide +kernel
theorem dX12_isBefore_30 : decode cX12_isBefore 30 = .ok (.iadd, 1) := by decide +kernel
theorem dX12_isBefore_31 : decode cX12_isBefore 31 = .ok (.istore 9, 2) := by decide +kernel
theorem dX12_isBefore_33 : decode cX12_isBefore 33 = .ok (.aload_n 0, 1) := by decide +kernel
theorem dX12_isBefore_34 : decode cX12_isBefore 34 = .ok (.getfield 116, 3) := by decide +kernel
theorem dX12_isBefore_37 : decode cX12_isBefore 37 = .ok (.iload 8, 2) := by decide +kernel
theorem dX12_isBefore_39 : decode cX12_isBefore 39 = .ok (.aload_n 0, 1) := by decide +kernel
theorem dX12_isBefore_40 : decode cX12_isBefore 40 = .ok (.getfield 71, 3) := by decide +kernel
theorem dX12_isBefore_43 : decode cX12_isBefore 43 = .ok (.iload 9, 2) := by decide +kernel
theorem dX12_isBefore_45 : decode cX12_isBefore 45 = .ok (.iaload, 1) := by decide +kernel
theorem dX12_isBefore_46 : decode cX12_isBefore 46 = .ok (.iastore, 1) := by decide +kernel
theorem dX12_isBefore_47 : decode cX12_isBefore 47 = .ok (.aload_n 0, 1) := by decide +kernel
theorem dX12_isBefore_48 : decode cX12_isBefore 48 = .ok (.getfield 74, 3) := by decide +kernel
theorem dX12_isBefore_51 : decode cX12_isBefore 51 = .ok (.iload 9, 2) := by decide +kernel
theorem dX12_isBefore_53 : decode cX12_isBefore 53 = .ok (.iaload, 1) := by decide +kernel
theorem dX12_isBefore_54 : decode cX12_isBefore 54 = .ok (.istore 7, 2) := by decide +kernel
theorem dX12_isBefore_56 : decode cX12_isBefore 56 = .ok (.aload_n 0, 1) := by decide +kernel
theorem dX12_isBefore_57 : decode cX12_isBefore 57 = .ok (.iload_n 1, 1) := by decide +kernel
theorem dX12_isBefore_58 : decode cX12_isBefore 58 = .ok (.iload 6, 2) := by decide +kernel
theorem dX12_isBefore_60 : decode cX12_isBefore 60 = .ok (.aload_n 0, 1) := by decide +kernel
theorem dX12_isBefore_61 : decode cX12_isBefore 61 = .ok (.getfield 71, 3) := by decide +kernel
theorem dX12_isBefore_64 : decode cX12_isBefore 64 = .ok (.iload 9, 2) := by decide +kernel
theorem dX12_isBefore_66 : decode cX12_isBefore 66 = .ok (.iaload, 1) := by decide +kernel
theorem dX12_isBefore_67 : decode cX12_isBefore 67 = .ok (.invokevirtual 181, 3) := by decide +kernel
theorem dX12_isBefore_70 : decode cX12_isBefore 70 = .ok (.istore 6, 2) := by decide +kernel
theorem dX12_isBefore_72 : decode cX12_isBefore 72 = .ok (.iinc 8 1, 3) := by decide +kernel
theorem dX12_isBefore_75 : decode cX12_isBefore 75 = .ok (.goto (-65), 3) := by decide +kernel
theorem dX12_isBefore_78 : decode cX12_isBefore 78 = .ok (.iconst 0, 1) := by decide +kernel
theorem dX12_isBefore_79 : decode cX12_isBefore 79 = .ok (.istore 8, 2) := by decide +kernel
theorem dX12_isBefore_81 : decode cX12_isBefore 81 = .ok (.iload 8, 2) := by decide +kernel
theorem dX12_isBefore_83 : decode cX12_isBefore 83 = .ok (.iload_n 2, 1) := by decide +kernel
theorem dX12_isBefore_84 : decode cX12_isBefore 84 = .ok (.if_icmp .ge 63, 3) := by decide +kernel
theorem dX12_isBefore_87 : decode cX12_isBefore 87 = .ok (.aload_n 0, 1) := by decide +kernel
theorem dX12_isBefore_88 : decode cX12_isBefore 88 = .ok (.getfield 116, 3) := by decide +kernel
theorem dX12_isBefore_91 : decode cX12_isBefore 91 = .ok (.iload 8, 2) := by decide +kernel
theorem dX12_isBefore_93 : decode cX12_isBefore 93 = .ok (.iaload, 1) := by decide +kernel
theorem dX12_isBefore_94 : decode cX12_isBefore 94 = .ok (.aload_n 0, 1) := by decide +kernel
theorem dX12_isBefore_95 : decode cX12_isBefore 95 = .ok (.getfield 46, 3) := by decide +kernel
theorem dX12_isBefore_98 : decode cX12_isBefore 98 = .ok (.sipush 200, 3) := by decide +kernel
theorem dX12_isBefore_101 : decode cX12_isBefore 101 = .ok (.iload 5, 2) := by decide +kernel
theorem dX12_isBefore_103 : decode cX12_isBefore 103 = .ok (.imul, 1) := by decide +kernel
theorem dX12_isBefore_104 : decode cX12_isBefore 104 = .ok (.iload 8, 2) := by decide +kernel
theorem dX12_isBefore_106 : decode cX12_isBefore 106 = .ok (.iadd, 1) := by decide +kernel
theorem dX12_isBefore_107 : decode cX12_isBefore 107 = .ok (.iaload, 1) := by decide +kernel
theorem dX12_isBefore_108 : decode cX12_isBefore 108 = .ok (.if_icmp .eq 33, 3) := by decide +kernel
theorem dX12_isBefore_111 : decode cX12_isBefore 111 = .ok (.aload_n 0, 1) := by decide +kernel
theorem dX12_isBefore_112 : decode cX12_isBefore 112 = .ok (.getfield 116, 3) := by decide +kernel
theorem dX12_isBefore_115 : decode cX12_isBefore 115 = .ok (.iload 8, 2) := by decide +kernel
theorem dX12_isBefore_117 : decode cX12_isBefore 117 = .ok (.iaload, 1) := by decide +kernel
theorem dX12_isBefore_118 : decode cX12_isBefore 118 = .ok (.aload_n 0, 1) := by decide +kernel
theorem dX12_isBefore_119 : decode cX12_isBefore 119 = .ok (.getfield 46, 3) := by decide +kernel
theorem dX12_isBefore_122 : decode cX12_isBefore 122 = .ok (.sipush 200, 3) := by decide +kernel
theorem dX12_isBefore_125 : decode cX12_isBefore 125 = .ok (.iload 5, 2) := by decide +kernel
theorem dX12_isBefore_127 : decode cX12_isBefore 127 = .ok (.imul, 1) := by decide +kernel
theorem dX12_isBefore_128 : decode cX12_isBefore 128 = .ok (.iload 8, 2) := by decide +kernel
theorem dX12_isBefore_130 : decode cX12_isBefore 130 = .ok (.iadd, 1) := by decide +kernel
theorem dX12_isBefore_131 : decode cX12_isBefore 131 = .ok (.iaload, 1) := by decide +kernel
theorem dX12_isBefore_132 : decode cX12_isBefore 132 = .ok (.if_icmp .ge 7, 3) := by decide +kernel
theorem dX12_isBefore_135 : decode cX12_isBefore 135 = .ok (.iconst 1, 1) := by decide +kernel
theorem dX12_isBefore_136 : decode cX12_isBefore 136 = .ok (.goto 4, 3) := by decide +kernel
theorem dX12_isBefore_139 : decode cX12_isBefore 139 = .ok (.iconst 0, 1) := by decide +kernel
theorem dX12_isBefore_140 : decode cX12_isBefore 140 = .ok (.ireturn, 1) := by decide +kernel
theorem dX12_isBefore_141 : decode cX12_isBefore 141 = .ok (.iinc 8 1, 3) := by decide +kernel
theorem dX12_isBefore_144 : decode cX12_isBefore 144 = .ok (.goto (-63), 3) := by decide +kernel
theorem dX12_isBefore_147 : decode cX12_isBefore 147 = .ok (.iload_n 3, 1) := by decide +kernel
theorem dX12_isBefore_148 : decode cX12_isBefore 148 = .ok (.aload_n 0, 1) := by decide +kernel
theorem dX12_isBefore_149 : decode cX12_isBefore 149 = .ok (.getfield 52, 3) := by decide +kernel
theorem dX12_isBefore_152 : decode cX12_isBefore 152 = .ok (.iload 5, 2) := by decide +kernel
theorem dX12_isBefore_154 : decode cX12_isBefore 154 = .ok (.iaload, 1) := by decide +kernel
theorem dX12_isBefore_155 : decode cX12_isBefore 155 = .ok (.if_icmp .ge 7, 3) := by decide +kernel
theorem dX12_isBefore_158 : decode cX12_isBefore 158 = .ok (.iconst 1, 1) := by decide +kernel
theorem dX12_isBefore_159 : decode cX12_isBefore 159 = .ok (.goto 4, 3) := by decide +kernel
theorem dX12_isBefore_162 : decode cX12_isBefore 162 = .ok (.iconst 0, 1) := by decide +kernel
theorem dX12_isBefore_163 : decode cX12_isBefore 163 = .ok (.ireturn, 1) := by decide +kernel
theorem dX12_isDecoding_0 : decode cX12_isDecoding 0 = .ok (.aload_n 0, 1) := by decide +kernel
theorem dX12_isDecoding_1 : decode cX12_isDecoding 1 = .ok (.iload_n 1, 1) := by decide +kernel
theorem dX12_isDecoding_2 : decode cX12_isDecoding 2 = .ok (.invokevirtual 152, 3) := by decide +kernel
theorem dX12_isDecoding_5 : decode cX12_isDecoding 5 = .ok (.ifCond .eq 12, 3) := by decide +kernel
theorem dX12_isDecoding_8 : decode cX12_isDecoding 8 = .ok (.aload_n 0, 1) := by decide +kernel
theorem dX12_isDecoding_9 : decode cX12_isDecoding 9 = .ok (.iload_n 2, 1) := by decide +kernel
theorem dX12_isDecoding_10 : decode cX12_isDecoding 10 = .ok (.iconst 1, 1) := by decide +kernel
theorem dX12_isDecoding_11 : decode cX12_isDecoding 11 = .ok (.invokevirtual 137, 3) := by decide +kernel
theorem dX12_isDecoding_14 : decode cX12_isDecoding 14 = .ok (.ifCond .ne 5, 3) := by decide +kernel
theorem dX12_isDecoding_17 : decode cX12_isDecoding 17 = .ok (.iconst 0, 1) := by decide +kernel
theorem dX12_isDecoding_18 : decode cX12_isDecoding 18 = .ok (.ireturn, 1) := by decide +kernel
theorem dX12_isDecoding_19 : decode cX12_isDecoding 19 = .ok (.aload_n 0, 1) := by decide +kernel
theorem dX12_isDecoding_20 : decode cX12_isDecoding 20 = .ok (.aload_n 0, 1) := by decide +kernel
theorem dX12_isDecoding_21 : decode cX12_isDecoding 21 = .ok (.getfield 22, 3) := by decide +kernel
theorem dX12_isDecoding_24 : decode cX12_isDecoding 24 = .ok (.iload_n 1, 1) := by decide +kernel
theorem dX12_isDecoding_25 : decode cX12_isDecoding 25 = .ok (.iaload, 1) := by decide +kernel
theorem dX12_isDecoding_26 : decode cX12_isDecoding 26 = .ok (.iconst 5, 1) := by decide +kernel
theorem dX12_isDecoding_27 : decode cX12_isDecoding 27 = .ok (.if_icmp .eq 22, 3) := by decide +kernel
theorem dX12_isDecoding_30 : decode cX12_isDecoding 30 = .ok (.iload 4, 2) := by decide +kernel
theorem dX12_isDecoding_32 : decode cX12_isDecoding 32 = .ok (.ifCond .ne 13, 3) := by decide +kernel
theorem dX12_isDecoding_35 : decode cX12_isDecoding 35 = .ok (.aload_n 0, 1) := by decide +kernel
theorem dX12_isDecoding_36 : decode cX12_isDecoding 36 = .ok (.getfield 22, 3) := by decide +kernel
theorem dX12_isDecoding_39 : decode cX12_isDecoding 39 = .ok (.iload_n 1, 1) := by decide +kernel
theorem dX12_isDecoding_40 : decode cX12_isDecoding 40 = .ok (.iaload, 1) := by decide +kernel
theorem dX12_isDecoding_41 : decode cX12_isDecoding 41 = .ok (.iconst 4, 1) := by decide +kernel
theorem dX12_isDecoding_42 : decode cX12_isDecoding 42 = .ok (.if_icmp .eq 7, 3) := by decide +kernel
theorem dX12_isDecoding_45 : decode cX12_isDecoding 45 = .ok (.iconst 1, 1) := by decide +kernel
theorem dX12_isDecoding_46 : decode cX12_isDecoding 46 = .ok (.goto 4, 3) := by decide +kernel
theorem dX12_isDecoding_49 : decode cX12_isDecoding 49 = .ok (.iconst 0, 1) := by decide +kernel
theorem dX12_isDecoding_50 : decode cX12_isDecoding 50 = .ok (.iconst 2, 1) := by decide +kernel
theorem dX12_isDecoding_51 : decode cX12_isDecoding 51 = .ok (.invokevirtual 133, 3) := by decide +kernel
theorem dX12_isDecoding_54 : decode cX12_isDecoding 54 = .ok (.ifCond .eq 16, 3) := by decide +kernel
theorem dX12_isDecoding_57 : decode cX12_isDecoding 57 = .ok (.aload_n 0, 1) := by decide +kernel
theorem dX12_isDecoding_58 : decode cX12_isDecoding 58 = .ok (.iload_n 3, 1) := by decide +kernel
theorem dX12_isDecoding_59 : decode cX12_isDecoding 59 = .ok (.iconst 3, 1) := by decide +kernel
theorem dX12_isDecoding_60 : decode cX12_isDecoding 60 = .ok (.invokevirtual 197, 3) := by decide +kernel
theorem dX12_isDecoding_63 : decode cX12_isDecoding 63 = .ok (.ifCond .eq 7, 3) := by decide +kernel
theorem dX12_isDecoding_66 : decode cX12_isDecoding 66 = .ok (.iconst 1, 1) := by decide +kernel
theorem dX12_isDecoding_67 : decode cX12_isDecoding 67 = .ok (.goto 4, 3) := by decide +kernel
theorem dX12_isDecoding_70 : decode cX12_isDecoding 70 = .ok (.iconst 0, 1) := by decide +kernel
theorem dX12_isDecoding_71 : decode cX12_isDecoding 71 = .ok (.ireturn, 1) := by decide +kernel
theorem dX12_best_0 : decode cX12_best 0 = .ok (.aload_n 0, 1) := by decide +kernel
theorem dX12_best_1 : decode cX12_best 1 = .ok (.iload_n 1, 1) := by decide +kernel
theorem dX12_best_2 : decode cX12_best 2 = .ok (.iload_n 2, 1) := by decide +kernel
theorem dX12_best_3 : decode cX12_best 3 = .ok (.iload_n 3, 1) := by decide +kernel
theorem dX12_best_4 : decode cX12_best 4 = .ok (.iconst 1, 1) := by decide +kernel
theorem dX12_best_5 : decode cX12_best 5 = .ok (.invokevirtual 245, 3) := by decide +kernel
theorem dX12_best_8 : decode cX12_best 8 = .ok (.ifCond .ne 5, 3) := by decide +kernel
theorem dX12_best_11 : decode cX12_best 11 = .ok (.iconst 0, 1) := by decide +kernel
theorem dX12_best_12 : decode cX12_best 12 = .ok (.ireturn, 1) := by decide +kernel
theorem dX12_best_13 : decode cX12_best 13 = .ok (.aload_n 0, 1) := by decide +kernel
theorem dX12_best_14 : decode cX12_best 14 = .ok (.iload_n 1, 1) := by decide +kernel
theorem dX12_best_15 : decode cX12_best 15 = .ok (.iload_n 2, 1) := by decide +kernel
theorem dX12_best_16 : decode cX12_best 16 = .ok (.iload_n 3, 1) := by decide +kernel
theorem dX12_best_17 : decode cX12_best 17 = .ok (.iconst 1, 1) := by decide +kernel
theorem dX12_best_18 : decode cX12_best 18 = .ok (.invokevirtual 249, 3) := by decide +kernel
theorem dX12_best_21 : decode cX12_best 21 = .ok (.aload_n 0, 1) := by decide +kernel
theorem dX12_best_22 : decode cX12_best 22 = .ok (.getfield 222, 3) := by decide +kernel
theorem dX12_best_25 : decode cX12_best 25 = .ok (.ifCond .le 12, 3) := by decide +kernel
theorem dX12_best_28 : decode cX12_best 28 = .ok (.aload_n 0, 1) := by decide +kernel
theorem dX12_best_29 : decode cX12_best 29 = .ok (.getfield 49, 3) := by decide +kernel
theorem dX12_best_32 : decode cX12_best 32 = .ok (.iconst 0, 1) := by decide +kernel
theorem dX12_best_33 : decode cX12_best 33 = .ok (.iaload, 1) := by decide +kernel
theorem dX12_best_34 : decode cX12_best 34 = .ok (.goto 4, 3) := by decide +kernel
theorem dX12_best_37 : decode cX12_best 37 = .ok (.iconst (-1), 1) := by decide +kernel
theorem dX12_best_38 : decode cX12_best 38 = .ok (.ireturn, 1) := by decide +kernel
theorem dX12_list_0 : decode cX12_list 0 = .ok (.aload_n 0, 1) := by decide +kernel
theorem dX12_list_1 : decode cX12_list 1 = .ok (.iload_n 1, 1) := by decide +kernel
theorem dX12_list_2 : decode cX12_list 2 = .ok (.iload_n 2, 1) := by decide +kernel
theorem dX12_list_3 : decode cX12_list 3 = .ok (.iload_n 3, 1) := by decide +kernel
theorem dX12_list_4 : decode cX12_list 4 = .ok (.iconst 1, 1) := by decide +kernel
theorem dX12_list_5 : decode cX12_list 5 = .ok (.invokevirtual 245, 3) := by decide +kernel
theorem dX12_list_8 : decode cX12_list 8 = .ok (.ifCond .eq 29, 3) := by decide +kernel
theorem dX12_list_11 : decode cX12_list 11 = .ok (.aload_n 0, 1) := by decide +kernel
theorem dX12_list_12 : decode cX12_list 12 = .ok (.iload 4, 2) := by decide +kernel
theorem dX12_list_14 : decode cX12_list 14 = .ok (.iconst 1, 1) := by decide +kernel
theorem dX12_list_15 : decode cX12_list 15 = .ok (.if_icmp .lt 14, 3) := by decide +kernel
theorem dX12_list_18 : decode cX12_list 18 = .ok (.iload 4, 2) := by decide +kernel
theorem dX12_list_20 : decode cX12_list 20 = .ok (.bipush 8, 2) := by decide +kernel
theorem dX12_list_22 : decode cX12_list 22 = .ok (.if_icmp .gt 7, 3) := by decide +kernel
theorem dX12_list_25 : decode cX12_list 25 = .ok (.iconst 1, 1) := by decide +kernel
theorem dX12_list_26 : decode cX12_list 26 = .ok (.goto 4, 3) := by decide +kernel
theorem dX12_list_29 : decode cX12_list 29 = .ok (.iconst 0, 1) := by decide +kernel
theorem dX12_list_30 : decode cX12_list 30 = .ok (.iconst 3, 1) := by decide +kernel
theorem dX12_list_31 : decode cX12_list 31 = .ok (.invokevirtual 133, 3) := by decide +kernel
theorem dX12_list_34 : decode cX12_list 34 = .ok (.ifCond .ne 5, 3) := by decide +kernel
theorem dX12_list_37 : decode cX12_list 37 = .ok (.iconst 0, 1) := by decide +kernel
theorem dX12_list_38 : decode cX12_list 38 = .ok (.ireturn, 1) := by decide +kernel
theorem dX12_list_39 : decode cX12_list 39 = .ok (.aload_n 0, 1) := by decide +kernel
theorem dX12_list_40 : decode cX12_list 40 = .ok (.iload_n 1, 1) := by decide +kernel
theorem dX12_list_41 : decode cX12_list 41 = .ok (.iload_n 2, 1) := by decide +kernel
theorem dX12_list_42 : decode cX12_list 42 = .ok (.iload_n 3, 1) := by decide +kernel
theorem dX12_list_43 : decode cX12_list 43 = .ok (.iload 4, 2) := by decide +kernel
theorem dX12_list_45 : decode cX12_list 45 = .ok (.invokevirtual 249, 3) := by decide +kernel
theorem dX12_list_48 : decode cX12_list 48 = .ok (.aload_n 0, 1) := by decide +kernel
theorem dX12_list_49 : decode cX12_list 49 = .ok (.getfield 222, 3) := by decide +kernel
theorem dX12_list_52 : decode cX12_list 52 = .ok (.ireturn, 1) := by decide +kernel
theorem dX12_few_0 : decode cX12_few 0 = .ok (.aload_n 0, 1) := by decide +kernel
theorem dX12_few_1 : decode cX12_few 1 = .ok (.iload_n 1, 1) := by decide +kernel
theorem dX12_few_2 : decode cX12_few 2 = .ok (.iload_n 2, 1) := by decide +kernel
theorem dX12_few_3 : decode cX12_few 3 = .ok (.iload_n 3, 1) := by decide +kernel
theorem dX12_few_4 : decode cX12_few 4 = .ok (.iconst 0, 1) := by decide +kernel
theorem dX12_few_5 : decode cX12_few 5 = .ok (.invokevirtual 245, 3) := by decide +kernel
theorem dX12_few_8 : decode cX12_few 8 = .ok (.ifCond .eq 29, 3) := by decide +kernel
theorem dX12_few_11 : decode cX12_few 11 = .ok (.aload_n 0, 1) := by decide +kernel
theorem dX12_few_12 : decode cX12_few 12 = .ok (.iload 4, 2) := by decide +kernel
theorem dX12_few_14 : decode cX12_few 14 = .ok (.iconst 1, 1) := by decide +kernel
theorem dX12_few_15 : decode cX12_few 15 = .ok (.if_icmp .lt 14, 3) := by decide +kernel
theorem dX12_few_18 : decode cX12_few 18 = .ok (.iload 4, 2) := by decide +kernel
theorem dX12_few_20 : decode cX12_few 20 = .ok (.bipush 64, 2) := by decide +kernel
theorem dX12_few_22 : decode cX12_few 22 = .ok (.if_icmp .gt 7, 3) := by decide +kernel
theorem dX12_few_25 : decode cX12_few 25 = .ok (.iconst 1, 1) := by decide +kernel
theorem dX12_few_26 : decode cX12_few 26 = .ok (.goto 4, 3) := by decide +kernel
theorem dX12_few_29 : decode cX12_few 29 = .ok (.iconst 0, 1) := by decide +kernel
theorem dX12_few_30 : decode cX12_few 30 = .ok (.iconst 3, 1) := by decide +kernel
theorem dX12_few_31 : decode cX12_few 31 = .ok (.invokevirtual 133, 3) := by decide +kernel
theorem dX12_few_34 : decode cX12_few 34 = .ok (.ifCond .ne 5, 3) := by decide +kernel
theorem dX12_few_37 : decode cX12_few 37 = .ok (.iconst 0, 1) := by decide +kernel
theorem dX12_few_38 : decode cX12_few 38 = .ok (.ireturn, 1) := by decide +kernel
theorem dX12_few_39 : decode cX12_few 39 = .ok (.aload_n 0, 1) := by decide +kernel
theorem dX12_few_40 : decode cX12_few 40 = .ok (.iload_n 1, 1) := by decide +kernel
theorem dX12_few_41 : decode cX12_few 41 = .ok (.iload_n 2, 1) := by decide +kernel
theorem dX12_few_42 : decode cX12_few 42 = .ok (.iload_n 3, 1) := by decide +kernel
theorem dX12_few_43 : decode cX12_few 43 = .ok (.invokevirtual 218, 3) := by decide +kernel
theorem dX12_few_46 : decode cX12_few 46 = .ok (.iconst 1, 1) := by decide +kernel
theorem dX12_few_47 : decode cX12_few 47 = .ok (.aload_n 0, 1) := by decide +kernel
theorem dX12_few_48 : decode cX12_few 48 = .ok (.getfield 25, 3) := by decide +kernel
theorem dX12_few_51 : decode cX12_few 51 = .ok (.iload_n 1, 1) := by decide +kernel
theorem dX12_few_52 : decode cX12_few 52 = .ok (.iaload, 1) := by decide +kernel
theorem dX12_few_53 : decode cX12_few 53 = .ok (.ishl, 1) := by decide +kernel
theorem dX12_few_54 : decode cX12_few 54 = .ok (.istore 5, 2) := by decide +kernel
theorem dX12_few_56 : decode cX12_few 56 = .ok (.iconst 0, 1) := by decide +kernel
theorem dX12_few_57 : decode cX12_few 57 = .ok (.istore 6, 2) := by decide +kernel
theorem dX12_few_59 : decode cX12_few 59 = .ok (.iload 6, 2) := by decide +kernel
theorem dX12_few_61 : decode cX12_few 61 = .ok (.iload 5, 2) := by decide +kernel
theorem dX12_few_63 : decode cX12_few 63 = .ok (.if_icmp .ge 27, 3) := by decide +kernel
theorem dX12_few_66 : decode cX12_few 66 = .ok (.aload_n 0, 1) := by decide +kernel
theorem dX12_few_67 : decode cX12_few 67 = .ok (.getfield 104, 3) := by decide +kernel
theorem dX12_few_70 : decode cX12_few 70 = .ok (.iload 6, 2) := by decide +kernel
theorem dX12_few_72 : decode cX12_few 72 = .ok (.iload 6, 2) := by decide +kernel
theorem dX12_few_74 : decode cX12_few 74 = .ok (.ifCond .ne 7, 3) := by decide +kernel
theorem dX12_few_77 : decode cX12_few 77 = .ok (.iconst 0, 1) := by decide +kernel
theorem dX12_few_78 : decode cX12_few 78 = .ok (.goto 5, 3) := by decide +kernel
theorem dX12_few_81 : decode cX12_few 81 = .ok (.ldc 217, 2) := by decide +kernel
theorem dX12_few_83 : decode cX12_few 83 = .ok (.iastore, 1) := by decide +kernel
theorem dX12_few_84 : decode cX12_few 84 = .ok (.iinc 6 1, 3) := by decide +kernel
theorem dX12_few_87 : decode cX12_few 87 = .ok (.goto (-28), 3) := by decide +kernel
theorem dX12_few_90 : decode cX12_few 90 = .ok (.iconst 0, 1) := by decide +kernel
theorem dX12_few_91 : decode cX12_few 91 = .ok (.istore 6, 2) := by decide +kernel
theorem dX12_few_93 : decode cX12_few 93 = .ok (.iload 6, 2) := by decide +kernel
theorem dX12_few_95 : decode cX12_few 95 = .ok (.aload_n 0, 1) := by decide +kernel
theorem dX12_few_96 : decode cX12_few 96 = .ok (.iload_n 1, 1) := by decide +kernel
theorem dX12_few_97 : decode cX12_few 97 = .ok (.iload_n 3, 1) := by decide +kernel
theorem dX12_few_98 : decode cX12_few 98 = .ok (.invokevirtual 190, 3) := by decide +kernel
theorem dX12_few_101 : decode cX12_few 101 = .ok (.if_icmp .ge 131, 3) := by decide +kernel
theorem dX12_few_104 : decode cX12_few 104 = .ok (.iconst 0, 1) := by decide +kernel
theorem dX12_few_105 : decode cX12_few 105 = .ok (.istore 7, 2) := by decide +kernel
theorem dX12_few_107 : decode cX12_few 107 = .ok (.iload 7, 2) := by decide +kernel
theorem dX12_few_109 : decode cX12_few 109 = .ok (.iload 5, 2) := by decide +kernel
theorem dX12_few_111 : decode cX12_few 111 = .ok (.if_icmp .ge 18, 3) := by decide +kernel
theorem dX12_few_114 : decode cX12_few 114 = .ok (.aload_n 0, 1) := by decide +kernel
theorem dX12_few_115 : decode cX12_few 115 = .ok (.getfield 107, 3) := by decide +kernel
theorem dX12_few_118 : decode cX12_few 118 = .ok (.iload 7, 2) := by decide +kernel
theorem dX12_few_120 : decode cX12_few 120 = .ok (.ldc 217, 2) := by decide +kernel
theorem dX12_few_122 : decode cX12_few 122 = .ok (.iastore, 1) := by decide +kernel
theorem dX12_few_123 : decode cX12_few 123 = .ok (.iinc 7 1, 3) := by decide +kernel
theorem dX12_few_126 : decode cX12_few 126 = .ok (.goto (-19), 3) := by decide +kernel
theorem dX12_few_129 : decode cX12_few 129 = .ok (.iconst 0, 1) := by decide +kernel
theorem dX12_few_130 : decode cX12_few 130 = .ok (.istore 7, 2) := by decide +kernel
theorem dX12_few_132 : decode cX12_few 132 = .ok (.iload 7, 2) := by decide +kernel
theorem dX12_few_134 : decode cX12_few 134 = .ok (.iload 5, 2) := by decide +kernel
theorem dX12_few_136 : decode cX12_few 136 = .ok (.if_icmp .ge 82, 3) := by decide +kernel
theorem dX12_few_139 : decode cX12_few 139 = .ok (.aload_n 0, 1) := by decide +kernel
theorem dX12_few_140 : decode cX12_few 140 = .ok (.getfield 104, 3) := by decide +kernel
theorem dX12_few_143 : decode cX12_few 143 = .ok (.iload 7, 2) := by decide +kernel
theorem dX12_few_145 : decode cX12_few 145 = .ok (.iaload, 1) := by decide +kernel
theorem dX12_few_146 : decode cX12_few 146 = .ok (.ldc 217, 2) := by decide +kernel
theorem dX12_few_148 : decode cX12_few 148 = .ok (.if_icmp .ne 6, 3) := by decide +kernel
theorem dX12_few_151 : decode cX12_few 151 = .ok (.goto 61, 3) := by decide +kernel
theorem dX12_few_154 : decode cX12_few 154 = .ok (.iload 6, 2) := by decide +kernel
theorem dX12_few_156 : decode cX12_few 156 = .ok (.iload_n 3, 1) := by decide +kernel
theorem dX12_few_157 : decode cX12_few 157 = .ok (.if_icmp .ge 7, 3) := by decide +kernel
theorem dX12_few_160 : decode cX12_few 160 = .ok (.iconst (-1), 1) := by decide +kernel
theorem dX12_few_161 : decode cX12_few 161 = .ok (.goto 10, 3) := by decide +kernel
theorem dX12_few_164 : decode cX12_few 164 = .ok (.aload_n 0, 1) := by decide +kernel
theorem dX12_few_165 : decode cX12_few 165 = .ok (.iload_n 1, 1) := by decide +kernel
theorem dX12_few_166 : decode cX12_few 166 = .ok (.iload 7, 2) := by decide +kernel
theorem dX12_few_168 : decode cX12_few 168 = .ok (.invokevirtual 167, 3) := by decide +kernel
theorem dX12_few_171 : decode cX12_few 171 = .ok (.istore 8, 2) := by decide +kernel
theorem dX12_few_173 : decode cX12_few 173 = .ok (.iconst 0, 1) := by decide +kernel
theorem dX12_few_174 : decode cX12_few 174 = .ok (.istore 9, 2) := by decide +kernel
theorem dX12_few_176 : decode cX12_few 176 = .ok (.iload 9, 2) := by decide +kernel
theorem dX12_few_178 : decode cX12_few 178 = .ok (.iconst 2, 1) := by decide +kernel
theorem dX12_few_179 : decode cX12_few 179 = .ok (.if_icmp .ge 33, 3) := by decide +kernel
theorem dX12_few_182 : decode cX12_few 182 = .ok (.iload 8, 2) := by decide +kernel
theorem dX12_few_184 : decode cX12_few 184 = .ok (.iconst (-1), 1) := by decide +kernel
theorem dX12_few_185 : decode cX12_few 185 = .ok (.if_icmp .eq 10, 3) := by decide +kernel
theorem dX12_few_188 : decode cX12_few 188 = .ok (.iload 8, 2) := by decide +kernel
theorem dX12_few_190 : decode cX12_few 190 = .ok (.iload 9, 2) := by decide +kernel
theorem dX12_few_192 : decode cX12_few 192 = .ok (.if_icmp .ne 14, 3) := by decide +kernel
theorem dX12_few_195 : decode cX12_few 195 = .ok (.aload_n 0, 1) := by decide +kernel
theorem dX12_few_196 : decode cX12_few 196 = .ok (.iload_n 1, 1) := by decide +kernel
theorem dX12_few_197 : decode cX12_few 197 = .ok (.iload 6, 2) := by decide +kernel
theorem dX12_few_199 : decode cX12_few 199 = .ok (.iload 7, 2) := by decide +kernel
theorem dX12_few_201 : decode cX12_few 201 = .ok (.iload 9, 2) := by decide +kernel
theorem dX12_few_203 : decode cX12_few 203 = .ok (.invokevirtual 252, 3) := by decide +kernel
theorem dX12_few_206 : decode cX12_few 206 = .ok (.iinc 9 1, 3) := by decide +kernel
theorem dX12_few_209 : decode cX12_few 209 = .ok (.goto (-33), 3) := by decide +kernel
theorem dX12_few_212 : decode cX12_few 212 = .ok (.iinc 7 1, 3) := by decide +kernel
theorem dX12_few_215 : decode cX12_few 215 = .ok (.goto (-83), 3) := by decide +kernel
theorem dX12_few_218 : decode cX12_few 218 = .ok (.aload_n 0, 1) := by decide +kernel
theorem dX12_few_219 : decode cX12_few 219 = .ok (.iload 5, 2) := by decide +kernel
theorem dX12_few_221 : decode cX12_few 221 = .ok (.iload 4, 2) := by decide +kernel
theorem dX12_few_223 : decode cX12_few 223 = .ok (.invokevirtual 255, 3) := by decide +kernel
theorem dX12_few_226 : decode cX12_few 226 = .ok (.iinc 6 1, 3) := by decide +kernel
theorem dX12_few_229 : decode cX12_few 229 = .ok (.goto (-136), 3) := by decide +kernel
theorem dX12_few_232 : decode cX12_few 232 = .ok (.iconst 0, 1) := by decide +kernel
theorem dX12_few_233 : decode cX12_few 233 = .ok (.istore 6, 2) := by decide +kernel
theorem dX12_few_235 : decode cX12_few 235 = .ok (.iconst 0, 1) := by decide +kernel
theorem dX12_few_236 : decode cX12_few 236 = .ok (.istore 7, 2) := by decide +kernel
theorem dX12_few_238 : decode cX12_few 238 = .ok (.iload 7, 2) := by decide +kernel
theorem dX12_few_240 : decode cX12_few 240 = .ok (.iload 5, 2) := by decide +kernel
theorem dX12_few_242 : decode cX12_few 242 = .ok (.if_icmp .ge 30, 3) := by decide +kernel
theorem dX12_few_245 : decode cX12_few 245 = .ok (.aload_n 0, 1) := by decide +kernel
theorem dX12_few_246 : decode cX12_few 246 = .ok (.getfield 104, 3) := by decide +kernel
theorem dX12_few_249 : decode cX12_few 249 = .ok (.iload 7, 2) := by decide +kernel
theorem dX12_few_251 : decode cX12_few 251 = .ok (.iaload, 1) := by decide +kernel
theorem dX12_few_252 : decode cX12_few 252 = .ok (.aload_n 0, 1) := by decide +kernel
theorem dX12_few_253 : decode cX12_few 253 = .ok (.getfield 104, 3) := by decide +kernel
theorem dX12_few_256 : decode cX12_few 256 = .ok (.iload 6, 2) := by decide +kernel
theorem dX12_few_258 : decode cX12_few 258 = .ok (.iaload, 1) := by decide +kernel
theorem dX12_few_259 : decode cX12_few 259 = .ok (.if_icmp .ge 7, 3) := by decide +kernel
theorem dX12_few_262 : decode cX12_few 262 = .ok (.iload 7, 2) := by decide +kernel
theorem dX12_few_264 : decode cX12_few 264 = .ok (.istore 6, 2) := by decide +kernel
theorem dX12_few_266 : decode cX12_few 266 = .ok (.iinc 7 1, 3) := by decide +kernel
theorem dX12_few_269 : decode cX12_few 269 = .ok (.goto (-31), 3) := by decide +kernel
theorem dX12_few_272 : decode cX12_few 272 = .ok (.aload_n 0, 1) := by decide +kernel
theorem dX12_few_273 : decode cX12_few 273 = .ok (.iconst 1, 1) := by decide +kernel
theorem dX12_few_274 : decode cX12_few 274 = .ok (.putfield 222, 3) := by decide +kernel
theorem dX12_few_277 : decode cX12_few 277 = .ok (.aload_n 0, 1) := by decide +kernel
theorem dX12_few_278 : decode cX12_few 278 = .ok (.getfield 49, 3) := by decide +kernel
theorem dX12_few_281 : decode cX12_few 281 = .ok (.iconst 0, 1) := by decide +kernel
theorem dX12_few_282 : decode cX12_few 282 = .ok (.aload_n 0, 1) := by decide +kernel
theorem dX12_few_283 : decode cX12_few 283 = .ok (.getfield 104, 3) := by decide +kernel
theorem dX12_few_286 : decode cX12_few 286 = .ok (.iload 6, 2) := by decide +kernel
theorem dX12_few_288 : decode cX12_few 288 = .ok (.iaload, 1) := by decide +kernel
theorem dX12_few_289 : decode cX12_few 289 = .ok (.iastore, 1) := by decide +kernel
theorem dX12_few_290 : decode cX12_few 290 = .ok (.aload_n 0, 1) := by decide +kernel
theorem dX12_few_291 : decode cX12_few 291 = .ok (.getfield 52, 3) := by decide +kernel
theorem dX12_few_294 : decode cX12_few 294 = .ok (.iconst 0, 1) := by decide +kernel
theorem dX12_few_295 : decode cX12_few 295 = .ok (.iconst 0, 1) := by decide +kernel
theorem dX12_few_296 : decode cX12_few 296 = .ok (.iastore, 1) := by decide +kernel
theorem dX12_few_297 : decode cX12_few 297 = .ok (.aload_n 0, 1) := by decide +kernel
theorem dX12_few_298 : decode cX12_few 298 = .ok (.getfield 55, 3) := by decide +kernel
theorem dX12_few_301 : decode cX12_few 301 = .ok (.iconst 0, 1) := by decide +kernel
theorem dX12_few_302 : decode cX12_few 302 = .ok (.iload_n 3, 1) := by decide +kernel
theorem dX12_few_303 : decode cX12_few 303 = .ok (.iastore, 1) := by decide +kernel
theorem dX12_few_304 : decode cX12_few 304 = .ok (.iload 6, 2) := by decide +kernel
theorem dX12_few_306 : decode cX12_few 306 = .ok (.istore 7, 2) := by decide +kernel
theorem dX12_few_308 : decode cX12_few 308 = .ok (.aload_n 0, 1) := by decide +kernel
theorem dX12_few_309 : decode cX12_few 309 = .ok (.iload_n 1, 1) := by decide +kernel
theorem dX12_few_310 : decode cX12_few 310 = .ok (.iload_n 3, 1) := by decide +kernel
theorem dX12_few_311 : decode cX12_few 311 = .ok (.invokevirtual 190, 3) := by decide +kernel
theorem dX12_few_314 : decode cX12_few 314 = .ok (.iconst 1, 1) := by decide +kernel
theorem dX12_few_315 : decode cX12_few 315 = .ok (.isub, 1) := by decide +kernel
theorem dX12_few_316 : decode cX12_few 316 = .ok (.istore 8, 2) := by decide +kernel
theorem dX12_few_318 : decode cX12_few 318 = .ok (.iload 8, 2) := by decide +kernel
theorem dX12_few_320 : decode cX12_few 320 = .ok (.ifCond .lt 50, 3) := by decide +kernel
theorem dX12_few_323 : decode cX12_few 323 = .ok (.iload 8, 2) := by decide +kernel
theorem dX12_few_325 : decode cX12_few 325 = .ok (.iload_n 3, 1) := by decide +kernel
theorem dX12_few_326 : decode cX12_few 326 = .ok (.if_icmp .ge 23, 3) := by decide +kernel
theorem dX12_few_329 : decode cX12_few 329 = .ok (.aload_n 0, 1) := by decide +kernel
theorem dX12_few_330 : decode cX12_few 330 = .ok (.getfield 46, 3) := by decide +kernel
theorem dX12_few_333 : decode cX12_few 333 = .ok (.iload 8, 2) := by decide +kernel
theorem dX12_few_335 : decode cX12_few 335 = .ok (.aload_n 0, 1) := by decide +kernel
theorem dX12_few_336 : decode cX12_few 336 = .ok (.getfield 113, 3) := by decide +kernel
theorem dX12_few_339 : decode cX12_few 339 = .ok (.bipush 64, 2) := by decide +kernel
theorem dX12_few_341 : decode cX12_few 341 = .ok (.iload 8, 2) := by decide +kernel
theorem dX12_few_343 : decode cX12_few 343 = .ok (.imul, 1) := by decide +kernel
theorem dX12_few_344 : decode cX12_few 344 = .ok (.iload 7, 2) := by decide +kernel
theorem dX12_few_346 : decode cX12_few 346 = .ok (.iadd, 1) := by decide +kernel
theorem dX12_few_347 : decode cX12_few 347 = .ok (.iaload, 1) := by decide +kernel
theorem dX12_few_348 : decode cX12_few 348 = .ok (.iastore, 1) := by decide +kernel
theorem dX12_few_349 : decode cX12_few 349 = .ok (.aload_n 0, 1) := by decide +kernel
theorem dX12_few_350 : decode cX12_few 350 = .ok (.getfield 110, 3) := by decide +kernel
theorem dX12_few_353 : decode cX12_few 353 = .ok (.bipush 64, 2) := by decide +kernel
theorem dX12_few_355 : decode cX12_few 355 = .ok (.iload 8, 2) := by decide +kernel
theorem dX12_few_357 : decode cX12_few 357 = .ok (.imul, 1) := by decide +kernel
theorem dX12_few_358 : decode cX12_few 358 = .ok (.iload 7, 2) := by decide +kernel
theorem dX12_few_360 : decode cX12_few 360 = .ok (.iadd, 1) := by decide +kernel
theorem dX12_few_361 : decode cX12_few 361 = .ok (.iaload, 1) := by decide +kernel
theorem dX12_few_362 : decode cX12_few 362 = .ok (.istore 7, 2) := by decide +kernel
theorem dX12_few_364 : decode cX12_few 364 = .ok (.iinc 8 (-1), 3) := by decide +kernel
theorem dX12_few_367 : decode cX12_few 367 = .ok (.goto (-49), 3) := by decide +kernel
theorem dX12_few_370 : decode cX12_few 370 = .ok (.aload_n 0, 1) := by decide +kernel
theorem dX12_few_371 : decode cX12_few 371 = .ok (.getfield 49, 3) := by decide +kernel
theorem dX12_few_374 : decode cX12_few 374 = .ok (.iconst 0, 1) := by decide +kernel
theorem dX12_few_375 : decode cX12_few 375 = .ok (.iaload, 1) := by decide +kernel
theorem dX12_few_376 : decode cX12_few 376 = .ok (.ireturn, 1) := by decide +kernel
theorem dX12_goes_0 : decode cX12_goes 0 = .ok (.aload_n 0, 1) := by decide +kernel
theorem dX12_goes_1 : decode cX12_goes 1 = .ok (.iload_n 1, 1) := by decide +kernel
theorem dX12_goes_2 : decode cX12_goes 2 = .ok (.iload_n 3, 1) := by decide +kernel
theorem dX12_goes_3 : decode cX12_goes 3 = .ok (.iload 4, 2) := by decide +kernel
theorem dX12_goes_5 : decode cX12_goes 5 = .ok (.invokevirtual 181, 3) := by decide +kernel
theorem dX12_goes_8 : decode cX12_goes 8 = .ok (.istore 5, 2) := by decide +kernel
theorem dX12_goes_10 : decode cX12_goes 10 = .ok (.aload_n 0, 1) := by decide +kernel
theorem dX12_goes_11 : decode cX12_goes 11 = .ok (.getfield 104, 3) := by decide +kernel
theorem dX12_goes_14 : decode cX12_goes 14 = .ok (.iload_n 3, 1) := by decide +kernel
theorem dX12_goes_15 : decode cX12_goes 15 = .ok (.iaload, 1) := by decide +kernel
theorem dX12_goes_16 : decode cX12_goes 16 = .ok (.aload_n 0, 1) := by decide +kernel
theorem dX12_goes_17 : decode cX12_goes 17 = .ok (.getfield 61, 3) := by decide +kernel
theorem dX12_goes_20 : decode cX12_goes 20 = .ok (.sipush 128, 3) := by decide +kernel
theorem dX12_goes_23 : decode cX12_goes 23 = .ok (.iload_n 2, 1) := by decide +kernel
theorem dX12_goes_24 : decode cX12_goes 24 = .ok (.imul, 1) := by decide +kernel
theorem dX12_goes_25 : decode cX12_goes 25 = .ok (.iconst 2, 1) := by decide +kernel
theorem dX12_goes_26 : decode cX12_goes 26 = .ok (.iload_n 3, 1) := by decide +kernel
theorem dX12_goes_27 : decode cX12_goes 27 = .ok (.imul, 1) := by decide +kernel
theorem dX12_goes_28 : decode cX12_goes 28 = .ok (.iadd, 1) := by decide +kernel
theorem dX12_goes_29 : decode cX12_goes 29 = .ok (.iload 4, 2) := by decide +kernel
theorem dX12_goes_31 : decode cX12_goes 31 = .ok (.iadd, 1) := by decide +kernel
theorem dX12_goes_32 : decode cX12_goes 32 = .ok (.iaload, 1) := by decide +kernel
theorem dX12_goes_33 : decode cX12_goes 33 = .ok (.iadd, 1) := by decide +kernel
theorem dX12_goes_34 : decode cX12_goes 34 = .ok (.istore 6, 2) := by decide +kernel
theorem dX12_goes_36 : decode cX12_goes 36 = .ok (.iload 6, 2) := by decide +kernel
theorem dX12_goes_38 : decode cX12_goes 38 = .ok (.aload_n 0, 1) := by decide +kernel
theorem dX12_goes_39 : decode cX12_goes 39 = .ok (.getfield 107, 3) := by decide +kernel
theorem dX12_goes_42 : decode cX12_goes 42 = .ok (.iload 5, 2) := by decide +kernel
theorem dX12_goes_44 : decode cX12_goes 44 = .ok (.iaload, 1) := by decide +kernel
theorem dX12_goes_45 : decode cX12_goes 45 = .ok (.if_icmp .lt 4, 3) := by decide +kernel
theorem dX12_goes_48 : decode cX12_goes 48 = .ok (.return_, 1) := by decide +kernel
theorem dX12_goes_49 : decode cX12_goes 49 = .ok (.aload_n 0, 1) := by decide +kernel
theorem dX12_goes_50 : decode cX12_goes 50 = .ok (.getfield 107, 3) := by decide +kernel
theorem dX12_goes_53 : decode cX12_goes 53 = .ok (.iload 5, 2) := by decide +kernel
theorem dX12_goes_55 : decode cX12_goes 55 = .ok (.iload 6, 2) := by decide +kernel
theorem dX12_goes_57 : decode cX12_goes 57 = .ok (.iastore, 1) := by decide +kernel
theorem dX12_goes_58 : decode cX12_goes 58 = .ok (.aload_n 0, 1) := by decide +kernel
theorem dX12_goes_59 : decode cX12_goes 59 = .ok (.getfield 110, 3) := by decide +kernel
theorem dX12_goes_62 : decode cX12_goes 62 = .ok (.bipush 64, 2) := by decide +kernel
theorem dX12_goes_64 : decode cX12_goes 64 = .ok (.iload_n 2, 1) := by decide +kernel
theorem dX12_goes_65 : decode cX12_goes 65 = .ok (.imul, 1) := by decide +kernel
theorem dX12_goes_66 : decode cX12_goes 66 = .ok (.iload 5, 2) := by decide +kernel
theorem dX12_goes_68 : decode cX12_goes 68 = .ok (.iadd, 1) := by decide +kernel
theorem dX12_goes_69 : decode cX12_goes 69 = .ok (.iload_n 3, 1) := by decide +kernel
theorem dX12_goes_70 : decode cX12_goes 70 = .ok (.iastore, 1) := by decide +kernel
theorem dX12_goes_71 : decode cX12_goes 71 = .ok (.aload_n 0, 1) := by decide +kernel
theorem dX12_goes_72 : decode cX12_goes 72 = .ok (.getfield 113, 3) := by decide +kernel
theorem dX12_goes_75 : decode cX12_goes 75 = .ok (.bipush 64, 2) := by decide +kernel
theorem dX12_goes_77 : decode cX12_goes 77 = .ok (.iload_n 2, 1) := by decide +kernel
theorem dX12_goes_78 : decode cX12_goes 78 = .ok (.imul, 1) := by decide +kernel
theorem dX12_goes_79 : decode cX12_goes 79 = .ok (.iload 5, 2) := by decide +kernel
theorem dX12_goes_81 : decode cX12_goes 81 = .ok (.iadd, 1) := by decide +kernel
theorem dX12_goes_82 : decode cX12_goes 82 = .ok (.iload 4, 2) := by decide +kernel
theorem dX12_goes_84 : decode cX12_goes 84 = .ok (.iastore, 1) := by decide +kernel
theorem dX12_goes_85 : decode cX12_goes 85 = .ok (.return_, 1) := by decide +kernel
theorem dX12_prunes_0 : decode cX12_prunes 0 = .ok (.iconst 0, 1) := by decide +kernel
theorem dX12_prunes_1 : decode cX12_prunes 1 = .ok (.istore_n 3, 1) := by decide +kernel
theorem dX12_prunes_2 : decode cX12_prunes 2 = .ok (.iload_n 3, 1) := by decide +kernel
theorem dX12_prunes_3 : decode cX12_prunes 3 = .ok (.iload_n 1, 1) := by decide +kernel
theorem dX12_prunes_4 : decode cX12_prunes 4 = .ok (.if_icmp .ge 91, 3) := by decide +kernel
theorem dX12_prunes_7 : decode cX12_prunes 7 = .ok (.iconst 0, 1) := by decide +kernel
theorem dX12_prunes_8 : decode cX12_prunes 8 = .ok (.istore 4, 2) := by decide +kernel
theorem dX12_prunes_10 : decode cX12_prunes 10 = .ok (.iconst 0, 1) := by decide +kernel
theorem dX12_prunes_11 : decode cX12_prunes 11 = .ok (.istore 5, 2) := by decide +kernel
theorem dX12_prunes_13 : decode cX12_prunes 13 = .ok (.iload 5, 2) := by decide +kernel
theorem dX12_prunes_15 : decode cX12_prunes 15 = .ok (.iload_n 1, 1) := by decide +kernel
theorem dX12_prunes_16 : decode cX12_prunes 16 = .ok (.if_icmp .ge 50, 3) := by decide +kernel
theorem dX12_prunes_19 : decode cX12_prunes 19 = .ok (.aload_n 0, 1) := by decide +kernel
theorem dX12_prunes_20 : decode cX12_prunes 20 = .ok (.getfield 107, 3) := by decide +kernel
theorem dX12_prunes_23 : decode cX12_prunes 23 = .ok (.iload 5, 2) := by decide +kernel
theorem dX12_prunes_25 : decode cX12_prunes 25 = .ok (.iaload, 1) := by decide +kernel
theorem dX12_prunes_26 : decode cX12_prunes 26 = .ok (.aload_n 0, 1) := by decide +kernel
theorem dX12_prunes_27 : decode cX12_prunes 27 = .ok (.getfield 107, 3) := by decide +kernel
theorem dX12_prunes_30 : decode cX12_prunes 30 = .ok (.iload_n 3, 1) := by decide +kernel
theorem dX12_prunes_31 : decode cX12_prunes 31 = .ok (.iaload, 1) := by decide +kernel
theorem dX12_prunes_32 : decode cX12_prunes 32 = .ok (.if_icmp .lt 25, 3) := by decide +kernel
theorem dX12_prunes_35 : decode cX12_prunes 35 = .ok (.aload_n 0, 1) := by decide +kernel
theorem dX12_prunes_36 : decode cX12_prunes 36 = .ok (.getfield 107, 3) := by decide +kernel
theorem dX12_prunes_39 : decode cX12_prunes 39 = .ok (.iload 5, 2) := by decide +kernel
theorem dX12_prunes_41 : decode cX12_prunes 41 = .ok (.iaload, 1) := by decide +kernel
theorem dX12_prunes_42 : decode cX12_prunes 42 = .ok (.aload_n 0, 1) := by decide +kernel
theorem dX12_prunes_43 : decode cX12_prunes 43 = .ok (.getfield 107, 3) := by decide +kernel
theorem dX12_prunes_46 : decode cX12_prunes 46 = .ok (.iload_n 3, 1) := by decide +kernel
theorem dX12_prunes_47 : decode cX12_prunes 47 = .ok (.iaload, 1) := by decide +kernel
theorem dX12_prunes_48 : decode cX12_prunes 48 = .ok (.if_icmp .ne 12, 3) := by decide +kernel
theorem dX12_prunes_51 : decode cX12_prunes 51 = .ok (.iload 5, 2) := by decide +kernel
theorem dX12_prunes_53 : decode cX12_prunes 53 = .ok (.iload_n 3, 1) := by decide +kernel
theorem dX12_prunes_54 : decode cX12_prunes 54 = .ok (.if_icmp .ge 6, 3) := by decide +kernel
theorem dX12_prunes_57 : decode cX12_prunes 57 = .ok (.iinc 4 1, 3) := by decide +kernel
theorem dX12_prunes_60 : decode cX12_prunes 60 = .ok (.iinc 5 1, 3) := by decide +kernel
theorem dX12_prunes_63 : decode cX12_prunes 63 = .ok (.goto (-50), 3) := by decide +kernel
theorem dX12_prunes_66 : decode cX12_prunes 66 = .ok (.aload_n 0, 1) := by decide +kernel
theorem dX12_prunes_67 : decode cX12_prunes 67 = .ok (.getfield 104, 3) := by decide +kernel
theorem dX12_prunes_70 : decode cX12_prunes 70 = .ok (.iload_n 3, 1) := by decide +kernel
theorem dX12_prunes_71 : decode cX12_prunes 71 = .ok (.iload 4, 2) := by decide +kernel
theorem dX12_prunes_73 : decode cX12_prunes 73 = .ok (.iload_n 2, 1) := by decide +kernel
theorem dX12_prunes_74 : decode cX12_prunes 74 = .ok (.if_icmp .ge 12, 3) := by decide +kernel
theorem dX12_prunes_77 : decode cX12_prunes 77 = .ok (.aload_n 0, 1) := by decide +kernel
theorem dX12_prunes_78 : decode cX12_prunes 78 = .ok (.getfield 107, 3) := by decide +kernel
theorem dX12_prunes_81 : decode cX12_prunes 81 = .ok (.iload_n 3, 1) := by decide +kernel
theorem dX12_prunes_82 : decode cX12_prunes 82 = .ok (.iaload, 1) := by decide +kernel
theorem dX12_prunes_83 : decode cX12_prunes 83 = .ok (.goto 5, 3) := by decide +kernel
theorem dX12_prunes_86 : decode cX12_prunes 86 = .ok (.ldc 217, 2) := by decide +kernel
theorem dX12_prunes_88 : decode cX12_prunes 88 = .ok (.iastore, 1) := by decide +kernel
theorem dX12_prunes_89 : decode cX12_prunes 89 = .ok (.iinc 3 1, 3) := by decide +kernel
theorem dX12_prunes_92 : decode cX12_prunes 92 = .ok (.goto (-90), 3) := by decide +kernel
theorem dX12_prunes_95 : decode cX12_prunes 95 = .ok (.return_, 1) := by decide +kernel
theorem dX12_leasts_0 : decode cX12_leasts 0 = .ok (.iconst 1, 1) := by decide +kernel
theorem dX12_leasts_1 : decode cX12_leasts 1 = .ok (.aload_n 0, 1) := by decide +kernel
theorem dX12_leasts_2 : decode cX12_leasts 2 = .ok (.getfield 25, 3) := by decide +kernel
theorem dX12_leasts_5 : decode cX12_leasts 5 = .ok (.iload_n 1, 1) := by decide +kernel
theorem dX12_leasts_6 : decode cX12_leasts 6 = .ok (.iaload, 1) := by decide +kernel
theorem dX12_leasts_7 : decode cX12_leasts 7 = .ok (.ishl, 1) := by decide +kernel
theorem dX12_leasts_8 : decode cX12_leasts 8 = .ok (.istore 6, 2) := by decide +kernel
theorem dX12_leasts_10 : decode cX12_leasts 10 = .ok (.iconst 0, 1) := by decide +kernel
theorem dX12_leasts_11 : decode cX12_leasts 11 = .ok (.istore 7, 2) := by decide +kernel
theorem dX12_leasts_13 : decode cX12_leasts 13 = .ok (.iload 7, 2) := by decide +kernel
theorem dX12_leasts_15 : decode cX12_leasts 15 = .ok (.iload 6, 2) := by decide +kernel
theorem dX12_leasts_17 : decode cX12_leasts 17 = .ok (.if_icmp .ge 136, 3) := by decide +kernel
theorem dX12_leasts_20 : decode cX12_leasts 20 = .ok (.aload_n 0, 1) := by decide +kernel
theorem dX12_leasts_21 : decode cX12_leasts 21 = .ok (.getfield 77, 3) := by decide +kernel
theorem dX12_leasts_24 : decode cX12_leasts 24 = .ok (.iload 7, 2) := by decide +kernel
theorem dX12_leasts_26 : decode cX12_leasts 26 = .ok (.iload 7, 2) := by decide +kernel
theorem dX12_leasts_28 : decode cX12_leasts 28 = .ok (.iload_n 3, 1) := by decide +kernel
theorem dX12_leasts_29 : decode cX12_leasts 29 = .ok (.if_icmp .ne 7, 3) := by decide +kernel
theorem dX12_leasts_32 : decode cX12_leasts 32 = .ok (.iconst 0, 1) := by decide +kernel
theorem dX12_leasts_33 : decode cX12_leasts 33 = .ok (.goto 5, 3) := by decide +kernel
theorem dX12_leasts_36 : decode cX12_leasts 36 = .ok (.ldc 217, 2) := by decide +kernel
theorem dX12_leasts_38 : decode cX12_leasts 38 = .ok (.iastore, 1) := by decide +kernel
theorem dX12_leasts_39 : decode cX12_leasts 39 = .ok (.iconst 0, 1) := by decide +kernel
theorem dX12_leasts_40 : decode cX12_leasts 40 = .ok (.istore 8, 2) := by decide +kernel
theorem dX12_leasts_42 : decode cX12_leasts 42 = .ok (.iload 7, 2) := by decide +kernel
theorem dX12_leasts_44 : decode cX12_leasts 44 = .ok (.istore 9, 2) := by decide +kernel
theorem dX12_leasts_46 : decode cX12_leasts 46 = .ok (.iload_n 2, 1) := by decide +kernel
theorem dX12_leasts_47 : decode cX12_leasts 47 = .ok (.istore 10, 2) := by decide +kernel
theorem dX12_leasts_49 : decode cX12_leasts 49 = .ok (.iload 5, 2) := by decide +kernel
theorem dX12_leasts_51 : decode cX12_leasts 51 = .ok (.ifCond .eq 66, 3) := by decide +kernel
theorem dX12_leasts_54 : decode cX12_leasts 54 = .ok (.iload 10, 2) := by decide +kernel
theorem dX12_leasts_56 : decode cX12_leasts 56 = .ok (.iload_n 2, 1) := by decide +kernel
theorem dX12_leasts_57 : decode cX12_leasts 57 = .ok (.aload_n 0, 1) := by decide +kernel
theorem dX12_leasts_58 : decode cX12_leasts 58 = .ok (.getfield 25, 3) := by decide +kernel
theorem dX12_leasts_61 : decode cX12_leasts 61 = .ok (.iload_n 1, 1) := by decide +kernel
theorem dX12_leasts_62 : decode cX12_leasts 62 = .ok (.iaload, 1) := by decide +kernel
theorem dX12_leasts_63 : decode cX12_leasts 63 = .ok (.iadd, 1) := by decide +kernel
theorem dX12_leasts_64 : decode cX12_leasts 64 = .ok (.if_icmp .ge 53, 3) := by decide +kernel
theorem dX12_leasts_67 : decode cX12_leasts 67 = .ok (.aload_n 0, 1) := by decide +kernel
theorem dX12_leasts_68 : decode cX12_leasts 68 = .ok (.iload_n 1, 1) := by decide +kernel
theorem dX12_leasts_69 : decode cX12_leasts 69 = .ok (.iload 9, 2) := by decide +kernel
theorem dX12_leasts_71 : decode cX12_leasts 71 = .ok (.invokevirtual 167, 3) := by decide +kernel
theorem dX12_leasts_74 : decode cX12_leasts 74 = .ok (.istore 11, 2) := by decide +kernel
theorem dX12_leasts_76 : decode cX12_leasts 76 = .ok (.iload 8, 2) := by decide +kernel
theorem dX12_leasts_78 : decode cX12_leasts 78 = .ok (.aload_n 0, 1) := by decide +kernel
theorem dX12_leasts_79 : decode cX12_leasts 79 = .ok (.getfield 61, 3) := by decide +kernel
theorem dX12_leasts_82 : decode cX12_leasts 82 = .ok (.sipush 128, 3) := by decide +kernel
theorem dX12_leasts_85 : decode cX12_leasts 85 = .ok (.iload 10, 2) := by decide +kernel
theorem dX12_leasts_87 : decode cX12_leasts 87 = .ok (.imul, 1) := by decide +kernel
theorem dX12_leasts_88 : decode cX12_leasts 88 = .ok (.iconst 2, 1) := by decide +kernel
theorem dX12_leasts_89 : decode cX12_leasts 89 = .ok (.iload 9, 2) := by decide +kernel
theorem dX12_leasts_91 : decode cX12_leasts 91 = .ok (.imul, 1) := by decide +kernel
theorem dX12_leasts_92 : decode cX12_leasts 92 = .ok (.iadd, 1) := by decide +kernel
theorem dX12_leasts_93 : decode cX12_leasts 93 = .ok (.iload 11, 2) := by decide +kernel
theorem dX12_leasts_95 : decode cX12_leasts 95 = .ok (.iadd, 1) := by decide +kernel
theorem dX12_leasts_96 : decode cX12_leasts 96 = .ok (.iaload, 1) := by decide +kernel
theorem dX12_leasts_97 : decode cX12_leasts 97 = .ok (.iadd, 1) := by decide +kernel
theorem dX12_leasts_98 : decode cX12_leasts 98 = .ok (.istore 8, 2) := by decide +kernel
theorem dX12_leasts_100 : decode cX12_leasts 100 = .ok (.aload_n 0, 1) := by decide +kernel
theorem dX12_leasts_101 : decode cX12_leasts 101 = .ok (.iload_n 1, 1) := by decide +kernel
theorem dX12_leasts_102 : decode cX12_leasts 102 = .ok (.iload 9, 2) := by decide +kernel
theorem dX12_leasts_104 : decode cX12_leasts 104 = .ok (.iload 11, 2) := by decide +kernel
theorem dX12_leasts_106 : decode cX12_leasts 106 = .ok (.invokevirtual 181, 3) := by decide +kernel
theorem dX12_leasts_109 : decode cX12_leasts 109 = .ok (.istore 9, 2) := by decide +kernel
theorem dX12_leasts_111 : decode cX12_leasts 111 = .ok (.iinc 10 1, 3) := by decide +kernel
theorem dX12_leasts_114 : decode cX12_leasts 114 = .ok (.goto (-65), 3) := by decide +kernel
theorem dX12_leasts_117 : decode cX12_leasts 117 = .ok (.aload_n 0, 1) := by decide +kernel
theorem dX12_leasts_118 : decode cX12_leasts 118 = .ok (.getfield 80, 3) := by decide +kernel
theorem dX12_leasts_121 : decode cX12_leasts 121 = .ok (.bipush 64, 2) := by decide +kernel
theorem dX12_leasts_123 : decode cX12_leasts 123 = .ok (.iload_n 2, 1) := by decide +kernel
theorem dX12_leasts_124 : decode cX12_leasts 124 = .ok (.imul, 1) := by decide +kernel
theorem dX12_leasts_125 : decode cX12_leasts 125 = .ok (.iload 7, 2) := by decide +kernel
theorem dX12_leasts_127 : decode cX12_leasts 127 = .ok (.iadd, 1) := by decide +kernel
theorem dX12_leasts_128 : decode cX12_leasts 128 = .ok (.iload 4, 2) := by decide +kernel
theorem dX12_leasts_130 : decode cX12_leasts 130 = .ok (.ifCond .eq 14, 3) := by decide +kernel
theorem dX12_leasts_133 : decode cX12_leasts 133 = .ok (.iload 7, 2) := by decide +kernel
theorem dX12_leasts_135 : decode cX12_leasts 135 = .ok (.iload_n 3, 1) := by decide +kernel
theorem dX12_leasts_136 : decode cX12_leasts 136 = .ok (.if_icmp .eq 8, 3) := by decide +kernel
theorem dX12_leasts_139 : decode cX12_leasts 139 = .ok (.ldc 217, 2) := by decide +kernel
theorem dX12_leasts_141 : decode cX12_leasts 141 = .ok (.goto 5, 3) := by decide +kernel
theorem dX12_leasts_144 : decode cX12_leasts 144 = .ok (.iload 8, 2) := by decide +kernel
theorem dX12_leasts_146 : decode cX12_leasts 146 = .ok (.iastore, 1) := by decide +kernel
theorem dX12_leasts_147 : decode cX12_leasts 147 = .ok (.iinc 7 1, 3) := by decide +kernel
theorem dX12_leasts_150 : decode cX12_leasts 150 = .ok (.goto (-137), 3) := by decide +kernel
theorem dX12_leasts_153 : decode cX12_leasts 153 = .ok (.iconst 0, 1) := by decide +kernel
theorem dX12_leasts_154 : decode cX12_leasts 154 = .ok (.istore 7, 2) := by decide +kernel
theorem dX12_leasts_156 : decode cX12_leasts 156 = .ok (.iload 7, 2) := by decide +kernel
theorem dX12_leasts_158 : decode cX12_leasts 158 = .ok (.iload_n 2, 1) := by decide +kernel
theorem dX12_leasts_159 : decode cX12_leasts 159 = .ok (.if_icmp .ge 163, 3) := by decide +kernel
theorem dX12_leasts_162 : decode cX12_leasts 162 = .ok (.iconst 0, 1) := by decide +kernel
theorem dX12_leasts_163 : decode cX12_leasts 163 = .ok (.istore 8, 2) := by decide +kernel
theorem dX12_leasts_165 : decode cX12_leasts 165 = .ok (.iload 8, 2) := by decide +kernel
theorem dX12_leasts_167 : decode cX12_leasts 167 = .ok (.iload 6, 2) := by decide +kernel
theorem dX12_leasts_169 : decode cX12_leasts 169 = .ok (.if_icmp .ge 26, 3) := by decide +kernel
theorem dX12_leasts_172 : decode cX12_leasts 172 = .ok (.aload_n 0, 1) := by decide +kernel
theorem dX12_leasts_173 : decode cX12_leasts 173 = .ok (.getfield 77, 3) := by decide +kernel
theorem dX12_leasts_176 : decode cX12_leasts 176 = .ok (.bipush 64, 2) := by decide +kernel
theorem dX12_leasts_178 : decode cX12_leasts 178 = .ok (.iload 7, 2) := by decide +kernel
theorem dX12_leasts_180 : decode cX12_leasts 180 = .ok (.iconst 1, 1) := by decide +kernel
theorem dX12_leasts_181 : decode cX12_leasts 181 = .ok (.iadd, 1) := by decide +kernel
theorem dX12_leasts_182 : decode cX12_leasts 182 = .ok (.imul, 1) := by decide +kernel
theorem dX12_leasts_183 : decode cX12_leasts 183 = .ok (.iload 8, 2) := by decide +kernel
theorem dX12_leasts_185 : decode cX12_leasts 185 = .ok (.iadd, 1) := by decide +kernel
theorem dX12_leasts_186 : decode cX12_leasts 186 = .ok (.ldc 217, 2) := by decide +kernel
theorem dX12_leasts_188 : decode cX12_leasts 188 = .ok (.iastore, 1) := by decide +kernel
theorem dX12_leasts_189 : decode cX12_leasts 189 = .ok (.iinc 8 1, 3) := by decide +kernel
theorem dX12_leasts_192 : decode cX12_leasts 192 = .ok (.goto (-27), 3) := by decide +kernel
theorem dX12_leasts_195 : decode cX12_leasts 195 = .ok (.iconst 0, 1) := by decide +kernel
theorem dX12_leasts_196 : decode cX12_leasts 196 = .ok (.istore 8, 2) := by decide +kernel
theorem dX12_leasts_198 : decode cX12_leasts 198 = .ok (.iload 8, 2) := by decide +kernel
theorem dX12_leasts_200 : decode cX12_leasts 200 = .ok (.iload 6, 2) := by decide +kernel
theorem dX12_leasts_202 : decode cX12_leasts 202 = .ok (.if_icmp .ge 114, 3) := by decide +kernel
theorem dX12_leasts_205 : decode cX12_leasts 205 = .ok (.aload_n 0, 1) := by decide +kernel
theorem dX12_leasts_206 : decode cX12_leasts 206 = .ok (.getfield 77, 3) := by decide +kernel
theorem dX12_leasts_209 : decode cX12_leasts 209 = .ok (.bipush 64, 2) := by decide +kernel
theorem dX12_leasts_211 : decode cX12_leasts 211 = .ok (.iload 7, 2) := by decide +kernel
theorem dX12_leasts_213 : decode cX12_leasts 213 = .ok (.imul, 1) := by decide +kernel
theorem dX12_leasts_214 : decode cX12_leasts 214 = .ok (.iload 8, 2) := by decide +kernel
theorem dX12_leasts_216 : decode cX12_leasts 216 = .ok (.iadd, 1) := by decide +kernel
theorem dX12_leasts_217 : decode cX12_leasts 217 = .ok (.iaload, 1) := by decide +kernel
theorem dX12_leasts_218 : decode cX12_leasts 218 = .ok (.ldc 217, 2) := by decide +kernel
theorem dX12_leasts_220 : decode cX12_leasts 220 = .ok (.if_icmp .lt 6, 3) := by decide +kernel
theorem dX12_leasts_223 : decode cX12_leasts 223 = .ok (.goto 87, 3) := by decide +kernel
theorem dX12_leasts_226 : decode cX12_leasts 226 = .ok (.iconst 0, 1) := by decide +kernel
theorem dX12_leasts_227 : decode cX12_leasts 227 = .ok (.istore 9, 2) := by decide +kernel
theorem dX12_leasts_229 : decode cX12_leasts 229 = .ok (.iload 9, 2) := by decide +kernel
theorem dX12_leasts_231 : decode cX12_leasts 231 = .ok (.iconst 2, 1) := by decide +kernel
theorem dX12_leasts_232 : decode cX12_leasts 232 = .ok (.if_icmp .ge 78, 3) := by decide +kernel
theorem dX12_leasts_235 : decode cX12_leasts 235 = .ok (.bipush 64, 2) := by decide +kernel
theorem dX12_leasts_237 : decode cX12_leasts 237 = .ok (.iload 7, 2) := by decide +kernel
theorem dX12_leasts_239 : decode cX12_leasts 239 = .ok (.iconst 1, 1) := by decide +kernel
theorem dX12_leasts_240 : decode cX12_leasts 240 = .ok (.iadd, 1) := by decide +kernel
theorem dX12_leasts_241 : decode cX12_leasts 241 = .ok (.imul, 1) := by decide +kernel
theorem dX12_leasts_242 : decode cX12_leasts 242 = .ok (.aload_n 0, 1) := by decide +kernel
theorem dX12_leasts_243 : decode cX12_leasts 243 = .ok (.iload_n 1, 1) := by decide +kernel
theorem dX12_leasts_244 : decode cX12_leasts 244 = .ok (.iload 8, 2) := by decide +kernel
theorem dX12_leasts_246 : decode cX12_leasts 246 = .ok (.iload 9, 2) := by decide +kernel
theorem dX12_leasts_248 : decode cX12_leasts 248 = .ok (.invokevirtual 181, 3) := by decide +kernel
theorem dX12_leasts_251 : decode cX12_leasts 251 = .ok (.iadd, 1) := by decide +kernel
theorem dX12_leasts_252 : decode cX12_leasts 252 = .ok (.istore 10, 2) := by decide +kernel
theorem dX12_leasts_254 : decode cX12_leasts 254 = .ok (.aload_n 0, 1) := by decide +kernel
theorem dX12_leasts_255 : decode cX12_leasts 255 = .ok (.getfield 77, 3) := by decide +kernel
theorem dX12_leasts_258 : decode cX12_leasts 258 = .ok (.iload 10, 2) := by decide +kernel
theorem dX12_leasts_260 : decode cX12_leasts 260 = .ok (.aload_n 0, 1) := by decide +kernel
theorem dX12_leasts_261 : decode cX12_leasts 261 = .ok (.getfield 77, 3) := by decide +kernel
theorem dX12_leasts_264 : decode cX12_leasts 264 = .ok (.iload 10, 2) := by decide +kernel
theorem dX12_leasts_266 : decode cX12_leasts 266 = .ok (.iaload, 1) := by decide +kernel
theorem dX12_leasts_267 : decode cX12_leasts 267 = .ok (.aload_n 0, 1) := by decide +kernel
theorem dX12_leasts_268 : decode cX12_leasts 268 = .ok (.getfield 77, 3) := by decide +kernel
theorem dX12_leasts_271 : decode cX12_leasts 271 = .ok (.bipush 64, 2) := by decide +kernel
theorem dX12_leasts_273 : decode cX12_leasts 273 = .ok (.iload 7, 2) := by decide +kernel
theorem dX12_leasts_275 : decode cX12_leasts 275 = .ok (.imul, 1) := by decide +kernel
theorem dX12_leasts_276 : decode cX12_leasts 276 = .ok (.iload 8, 2) := by decide +kernel
theorem dX12_leasts_278 : decode cX12_leasts 278 = .ok (.iadd, 1) := by decide +kernel
theorem dX12_leasts_279 : decode cX12_leasts 279 = .ok (.iaload, 1) := by decide +kernel
theorem dX12_leasts_280 : decode cX12_leasts 280 = .ok (.aload_n 0, 1) := by decide +kernel
theorem dX12_leasts_281 : decode cX12_leasts 281 = .ok (.getfield 61, 3) := by decide +kernel
theorem dX12_leasts_284 : decode cX12_leasts 284 = .ok (.sipush 128, 3) := by decide +kernel
theorem dX12_leasts_287 : decode cX12_leasts 287 = .ok (.iload 7, 2) := by decide +kernel
theorem dX12_leasts_289 : decode cX12_leasts 289 = .ok (.imul, 1) := by decide +kernel
theorem dX12_leasts_290 : decode cX12_leasts 290 = .ok (.iconst 2, 1) := by decide +kernel
theorem dX12_leasts_291 : decode cX12_leasts 291 = .ok (.iload 8, 2) := by decide +kernel
theorem dX12_leasts_293 : decode cX12_leasts 293 = .ok (.imul, 1) := by decide +kernel
theorem dX12_leasts_294 : decode cX12_leasts 294 = .ok (.iadd, 1) := by decide +kernel
theorem dX12_leasts_295 : decode cX12_leasts 295 = .ok (.iload 9, 2) := by decide +kernel
theorem dX12_leasts_297 : decode cX12_leasts 297 = .ok (.iadd, 1) := by decide +kernel
theorem dX12_leasts_298 : decode cX12_leasts 298 = .ok (.iaload, 1) := by decide +kernel
theorem dX12_leasts_299 : decode cX12_leasts 299 = .ok (.iadd, 1) := by decide +kernel
theorem dX12_leasts_300 : decode cX12_leasts 300 = .ok (.invokestatic 158, 3) := by decide +kernel
theorem dX12_leasts_303 : decode cX12_leasts 303 = .ok (.iastore, 1) := by decide +kernel
theorem dX12_leasts_304 : decode cX12_leasts 304 = .ok (.iinc 9 1, 3) := by decide +kernel
theorem dX12_leasts_307 : decode cX12_leasts 307 = .ok (.goto (-78), 3) := by decide +kernel
theorem dX12_leasts_310 : decode cX12_leasts 310 = .ok (.iinc 8 1, 3) := by decide +kernel
theorem dX12_leasts_313 : decode cX12_leasts 313 = .ok (.goto (-115), 3) := by decide +kernel
theorem dX12_leasts_316 : decode cX12_leasts 316 = .ok (.iinc 7 1, 3) := by decide +kernel
theorem dX12_leasts_319 : decode cX12_leasts 319 = .ok (.goto (-163), 3) := by decide +kernel
theorem dX12_leasts_322 : decode cX12_leasts 322 = .ok (.iload_n 2, 1) := by decide +kernel
theorem dX12_leasts_323 : decode cX12_leasts 323 = .ok (.iconst 1, 1) := by decide +kernel
theorem dX12_leasts_324 : decode cX12_leasts 324 = .ok (.isub, 1) := by decide +kernel
theorem dX12_leasts_325 : decode cX12_leasts 325 = .ok (.istore 7, 2) := by decide +kernel
theorem dX12_leasts_327 : decode cX12_leasts 327 = .ok (.iload 7, 2) := by decide +kernel
theorem dX12_leasts_329 : decode cX12_leasts 329 = .ok (.ifCond .lt 260, 3) := by decide +kernel
theorem dX12_leasts_332 : decode cX12_leasts 332 = .ok (.iconst 0, 1) := by decide +kernel
theorem dX12_leasts_333 : decode cX12_leasts 333 = .ok (.istore 8, 2) := by decide +kernel
theorem dX12_leasts_335 : decode cX12_leasts 335 = .ok (.iload 8, 2) := by decide +kernel
theorem dX12_leasts_337 : decode cX12_leasts 337 = .ok (.iload 6, 2) := by decide +kernel
theorem dX12_leasts_339 : decode cX12_leasts 339 = .ok (.if_icmp .ge 244, 3) := by decide +kernel
theorem dX12_leasts_342 : decode cX12_leasts 342 = .ok (.aload_n 0, 1) := by decide +kernel
theorem dX12_leasts_343 : decode cX12_leasts 343 = .ok (.getfield 80, 3) := by decide +kernel
theorem dX12_leasts_346 : decode cX12_leasts 346 = .ok (.bipush 64, 2) := by decide +kernel
theorem dX12_leasts_348 : decode cX12_leasts 348 = .ok (.iload 7, 2) := by decide +kernel
theorem dX12_leasts_350 : decode cX12_leasts 350 = .ok (.iconst 1, 1) := by decide +kernel
theorem dX12_leasts_351 : decode cX12_leasts 351 = .ok (.iadd, 1) := by decide +kernel
theorem dX12_leasts_352 : decode cX12_leasts 352 = .ok (.imul, 1) := by decide +kernel
theorem dX12_leasts_353 : decode cX12_leasts 353 = .ok (.aload_n 0, 1) := by decide +kernel
theorem dX12_leasts_354 : decode cX12_leasts 354 = .ok (.iload_n 1, 1) := by decide +kernel
theorem dX12_leasts_355 : decode cX12_leasts 355 = .ok (.iload 8, 2) := by decide +kernel
theorem dX12_leasts_357 : decode cX12_leasts 357 = .ok (.iconst 0, 1) := by decide +kernel
theorem dX12_leasts_358 : decode cX12_leasts 358 = .ok (.invokevirtual 181, 3) := by decide +kernel
theorem dX12_leasts_361 : decode cX12_leasts 361 = .ok (.iadd, 1) := by decide +kernel
theorem dX12_leasts_362 : decode cX12_leasts 362 = .ok (.iaload, 1) := by decide +kernel
theorem dX12_leasts_363 : decode cX12_leasts 363 = .ok (.istore 9, 2) := by decide +kernel
theorem dX12_leasts_365 : decode cX12_leasts 365 = .ok (.aload_n 0, 1) := by decide +kernel
theorem dX12_leasts_366 : decode cX12_leasts 366 = .ok (.getfield 80, 3) := by decide +kernel
theorem dX12_leasts_369 : decode cX12_leasts 369 = .ok (.bipush 64, 2) := by decide +kernel
theorem dX12_leasts_371 : decode cX12_leasts 371 = .ok (.iload 7, 2) := by decide +kernel
theorem dX12_leasts_373 : decode cX12_leasts 373 = .ok (.iconst 1, 1) := by decide +kernel
theorem dX12_leasts_374 : decode cX12_leasts 374 = .ok (.iadd, 1) := by decide +kernel
theorem dX12_leasts_375 : decode cX12_leasts 375 = .ok (.imul, 1) := by decide +kernel
theorem dX12_leasts_376 : decode cX12_leasts 376 = .ok (.aload_n 0, 1) := by decide +kernel
theorem dX12_leasts_377 : decode cX12_leasts 377 = .ok (.iload_n 1, 1) := by decide +kernel
theorem dX12_leasts_378 : decode cX12_leasts 378 = .ok (.iload 8, 2) := by decide +kernel
theorem dX12_leasts_380 : decode cX12_leasts 380 = .ok (.iconst 1, 1) := by decide +kernel
theorem dX12_leasts_381 : decode cX12_leasts 381 = .ok (.invokevirtual 181, 3) := by decide +kernel
theorem dX12_leasts_384 : decode cX12_leasts 384 = .ok (.iadd, 1) := by decide +kernel
theorem dX12_leasts_385 : decode cX12_leasts 385 = .ok (.iaload, 1) := by decide +kernel
theorem dX12_leasts_386 : decode cX12_leasts 386 = .ok (.istore 10, 2) := by decide +kernel
theorem dX12_leasts_388 : decode cX12_leasts 388 = .ok (.iload 9, 2) := by decide +kernel
theorem dX12_leasts_390 : decode cX12_leasts 390 = .ok (.ldc 217, 2) := by decide +kernel
theorem dX12_leasts_392 : decode cX12_leasts 392 = .ok (.if_icmp .lt 8, 3) := by decide +kernel
theorem dX12_leasts_395 : decode cX12_leasts 395 = .ok (.ldc 217, 2) := by decide +kernel
theorem dX12_leasts_397 : decode cX12_leasts 397 = .ok (.goto 22, 3) := by decide +kernel
theorem dX12_leasts_400 : decode cX12_leasts 400 = .ok (.iload 9, 2) := by decide +kernel
theorem dX12_leasts_402 : decode cX12_leasts 402 = .ok (.aload_n 0, 1) := by decide +kernel
theorem dX12_leasts_403 : decode cX12_leasts 403 = .ok (.getfield 61, 3) := by decide +kernel
theorem dX12_leasts_406 : decode cX12_leasts 406 = .ok (.sipush 128, 3) := by decide +kernel
theorem dX12_leasts_409 : decode cX12_leasts 409 = .ok (.iload 7, 2) := by decide +kernel
theorem dX12_leasts_411 : decode cX12_leasts 411 = .ok (.imul, 1) := by decide +kernel
theorem dX12_leasts_412 : decode cX12_leasts 412 = .ok (.iconst 2, 1) := by decide +kernel
theorem dX12_leasts_413 : decode cX12_leasts 413 = .ok (.iload 8, 2) := by decide +kernel
theorem dX12_leasts_415 : decode cX12_leasts 415 = .ok (.imul, 1) := by decide +kernel
theorem dX12_leasts_416 : decode cX12_leasts 416 = .ok (.iadd, 1) := by decide +kernel
theorem dX12_leasts_417 : decode cX12_leasts 417 = .ok (.iaload, 1) := by decide +kernel
theorem dX12_leasts_418 : decode cX12_leasts 418 = .ok (.iadd, 1) := by decide +kernel
theorem dX12_leasts_419 : decode cX12_leasts 419 = .ok (.istore 11, 2) := by decide +kernel
theorem dX12_leasts_421 : decode cX12_leasts 421 = .ok (.iload 10, 2) := by decide +kernel
theorem dX12_leasts_423 : decode cX12_leasts 423 = .ok (.ldc 217, 2) := by decide +kernel
theorem dX12_leasts_425 : decode cX12_leasts 425 = .ok (.if_icmp .lt 8, 3) := by decide +kernel
theorem dX12_leasts_428 : decode cX12_leasts 428 = .ok (.ldc 217, 2) := by decide +kernel
theorem dX12_leasts_430 : decode cX12_leasts 430 = .ok (.goto 24, 3) := by decide +kernel
theorem dX12_leasts_433 : decode cX12_leasts 433 = .ok (.iload 10, 2) := by decide +kernel
theorem dX12_leasts_435 : decode cX12_leasts 435 = .ok (.aload_n 0, 1) := by decide +kernel
theorem dX12_leasts_436 : decode cX12_leasts 436 = .ok (.getfield 61, 3) := by decide +kernel
theorem dX12_leasts_439 : decode cX12_leasts 439 = .ok (.sipush 128, 3) := by decide +kernel
theorem dX12_leasts_442 : decode cX12_leasts 442 = .ok (.iload 7, 2) := by decide +kernel
theorem dX12_leasts_444 : decode cX12_leasts 444 = .ok (.imul, 1) := by decide +kernel
theorem dX12_leasts_445 : decode cX12_leasts 445 = .ok (.iconst 2, 1) := by decide +kernel
theorem dX12_leasts_446 : decode cX12_leasts 446 = .ok (.iload 8, 2) := by decide +kernel
theorem dX12_leasts_448 : decode cX12_leasts 448 = .ok (.imul, 1) := by decide +kernel
theorem dX12_leasts_449 : decode cX12_leasts 449 = .ok (.iadd, 1) := by decide +kernel
theorem dX12_leasts_450 : decode cX12_leasts 450 = .ok (.iconst 1, 1) := by decide +kernel
theorem dX12_leasts_451 : decode cX12_leasts 451 = .ok (.iadd, 1) := by decide +kernel
theorem dX12_leasts_452 : decode cX12_leasts 452 = .ok (.iaload, 1) := by decide +kernel
theorem dX12_leasts_453 : decode cX12_leasts 453 = .ok (.iadd, 1) := by decide +kernel
theorem dX12_leasts_454 : decode cX12_leasts 454 = .ok (.istore 12, 2) := by decide +kernel
theorem dX12_leasts_456 : decode cX12_leasts 456 = .ok (.aload_n 0, 1) := by decide +kernel
theorem dX12_leasts_457 : decode cX12_leasts 457 = .ok (.getfield 80, 3) := by decide +kernel
theorem dX12_leasts_460 : decode cX12_leasts 460 = .ok (.bipush 64, 2) := by decide +kernel
theorem dX12_leasts_462 : decode cX12_leasts 462 = .ok (.iload 7, 2) := by decide +kernel
theorem dX12_leasts_464 : decode cX12_leasts 464 = .ok (.imul, 1) := by decide +kernel
theorem dX12_leasts_465 : decode cX12_leasts 465 = .ok (.iload 8, 2) := by decide +kernel
theorem dX12_leasts_467 : decode cX12_leasts 467 = .ok (.iadd, 1) := by decide +kernel
theorem dX12_leasts_468 : decode cX12_leasts 468 = .ok (.iload 11, 2) := by decide +kernel
theorem dX12_leasts_470 : decode cX12_leasts 470 = .ok (.iload 12, 2) := by decide +kernel
theorem dX12_leasts_472 : decode cX12_leasts 472 = .ok (.invokestatic 158, 3) := by decide +kernel
theorem dX12_leasts_475 : decode cX12_leasts 475 = .ok (.iastore, 1) := by decide +kernel
theorem dX12_leasts_476 : decode cX12_leasts 476 = .ok (.aload_n 0, 1) := by decide +kernel
theorem dX12_leasts_477 : decode cX12_leasts 477 = .ok (.getfield 77, 3) := by decide +kernel
theorem dX12_leasts_480 : decode cX12_leasts 480 = .ok (.bipush 64, 2) := by decide +kernel
theorem dX12_leasts_482 : decode cX12_leasts 482 = .ok (.iload 7, 2) := by decide +kernel
theorem dX12_leasts_484 : decode cX12_leasts 484 = .ok (.imul, 1) := by decide +kernel
theorem dX12_leasts_485 : decode cX12_leasts 485 = .ok (.iload 8, 2) := by decide +kernel
theorem dX12_leasts_487 : decode cX12_leasts 487 = .ok (.iadd, 1) := by decide +kernel
theorem dX12_leasts_488 : decode cX12_leasts 488 = .ok (.iaload, 1) := by decide +kernel
theorem dX12_leasts_489 : decode cX12_leasts 489 = .ok (.ldc 217, 2) := by decide +kernel
theorem dX12_leasts_491 : decode cX12_leasts 491 = .ok (.if_icmp .lt 6, 3) := by decide +kernel
theorem dX12_leasts_494 : decode cX12_leasts 494 = .ok (.goto 83, 3) := by decide +kernel
theorem dX12_leasts_497 : decode cX12_leasts 497 = .ok (.iload 11, 2) := by decide +kernel
theorem dX12_leasts_499 : decode cX12_leasts 499 = .ok (.ldc 217, 2) := by decide +kernel
theorem dX12_leasts_501 : decode cX12_leasts 501 = .ok (.if_icmp .ge 36, 3) := by decide +kernel
theorem dX12_leasts_504 : decode cX12_leasts 504 = .ok (.aload_n 0, 1) := by decide +kernel
theorem dX12_leasts_505 : decode cX12_leasts 505 = .ok (.getfield 83, 3) := by decide +kernel
theorem dX12_leasts_508 : decode cX12_leasts 508 = .ok (.iload 7, 2) := by decide +kernel
theorem dX12_leasts_510 : decode cX12_leasts 510 = .ok (.aload_n 0, 1) := by decide +kernel
theorem dX12_leasts_511 : decode cX12_leasts 511 = .ok (.getfield 83, 3) := by decide +kernel
theorem dX12_leasts_514 : decode cX12_leasts 514 = .ok (.iload 7, 2) := by decide +kernel
theorem dX12_leasts_516 : decode cX12_leasts 516 = .ok (.iaload, 1) := by decide +kernel
theorem dX12_leasts_517 : decode cX12_leasts 517 = .ok (.aload_n 0, 1) := by decide +kernel
theorem dX12_leasts_518 : decode cX12_leasts 518 = .ok (.getfield 77, 3) := by decide +kernel
theorem dX12_leasts_521 : decode cX12_leasts 521 = .ok (.bipush 64, 2) := by decide +kernel
theorem dX12_leasts_523 : decode cX12_leasts 523 = .ok (.iload 7, 2) := by decide +kernel
theorem dX12_leasts_525 : decode cX12_leasts 525 = .ok (.imul, 1) := by decide +kernel
theorem dX12_leasts_526 : decode cX12_leasts 526 = .ok (.iload 8, 2) := by decide +kernel
theorem dX12_leasts_528 : decode cX12_leasts 528 = .ok (.iadd, 1) := by decide +kernel
theorem dX12_leasts_529 : decode cX12_leasts 529 = .ok (.iaload, 1) := by decide +kernel
theorem dX12_leasts_530 : decode cX12_leasts 530 = .ok (.iload 11, 2) := by decide +kernel
theorem dX12_leasts_532 : decode cX12_leasts 532 = .ok (.iadd, 1) := by decide +kernel
theorem dX12_leasts_533 : decode cX12_leasts 533 = .ok (.invokestatic 158, 3) := by decide +kernel
theorem dX12_leasts_536 : decode cX12_leasts 536 = .ok (.iastore, 1) := by decide +kernel
theorem dX12_leasts_537 : decode cX12_leasts 537 = .ok (.iload 12, 2) := by decide +kernel
theorem dX12_leasts_539 : decode cX12_leasts 539 = .ok (.ldc 217, 2) := by decide +kernel
theorem dX12_leasts_541 : decode cX12_leasts 541 = .ok (.if_icmp .ge 36, 3) := by decide +kernel
theorem dX12_leasts_544 : decode cX12_leasts 544 = .ok (.aload_n 0, 1) := by decide +kernel
theorem dX12_leasts_545 : decode cX12_leasts 545 = .ok (.getfield 86, 3) := by decide +kernel
theorem dX12_leasts_548 : decode cX12_leasts 548 = .ok (.iload 7, 2) := by decide +kernel
theorem dX12_leasts_550 : decode cX12_leasts 550 = .ok (.aload_n 0, 1) := by decide +kernel
theorem dX12_leasts_551 : decode cX12_leasts 551 = .ok (.getfield 86, 3) := by decide +kernel
theorem dX12_leasts_554 : decode cX12_leasts 554 = .ok (.iload 7, 2) := by decide +kernel
theorem dX12_leasts_556 : decode cX12_leasts 556 = .ok (.iaload, 1) := by decide +kernel
theorem dX12_leasts_557 : decode cX12_leasts 557 = .ok (.aload_n 0, 1) := by decide +kernel
theorem dX12_leasts_558 : decode cX12_leasts 558 = .ok (.getfield 77, 3) := by decide +kernel
theorem dX12_leasts_561 : decode cX12_leasts 561 = .ok (.bipush 64, 2) := by decide +kernel
theorem dX12_leasts_563 : decode cX12_leasts 563 = .ok (.iload 7, 2) := by decide +kernel
theorem dX12_leasts_565 : decode cX12_leasts 565 = .ok (.imul, 1) := by decide +kernel
theorem dX12_leasts_566 : decode cX12_leasts 566 = .ok (.iload 8, 2) := by decide +kernel
theorem dX12_leasts_568 : decode cX12_leasts 568 = .ok (.iadd, 1) := by decide +kernel
theorem dX12_leasts_569 : decode cX12_leasts 569 = .ok (.iaload, 1) := by decide +kernel
theorem dX12_leasts_570 : decode cX12_leasts 570 = .ok (.iload 12, 2) := by decide +kernel
theorem dX12_leasts_572 : decode cX12_leasts 572 = .ok (.iadd, 1) := by decide +kernel
theorem dX12_leasts_573 : decode cX12_leasts 573 = .ok (.invokestatic 158, 3) := by decide +kernel
theorem dX12_leasts_576 : decode cX12_leasts 576 = .ok (.iastore, 1) := by decide +kernel
theorem dX12_leasts_577 : decode cX12_leasts 577 = .ok (.iinc 8 1, 3) := by decide +kernel
theorem dX12_leasts_580 : decode cX12_leasts 580 = .ok (.goto (-245), 3) := by decide +kernel
theorem dX12_leasts_583 : decode cX12_leasts 583 = .ok (.iinc 7 (-1), 3) := by decide +kernel
theorem dX12_leasts_586 : decode cX12_leasts 586 = .ok (.goto (-259), 3) := by decide +kernel
theorem dX12_leasts_589 : decode cX12_leasts 589 = .ok (.return_, 1) := by decide +kernel
theorem dX12_clearLeasts_0 : decode cX12_clearLeasts 0 = .ok (.iconst 0, 1) := by decide +kernel
theorem dX12_clearLeasts_1 : decode cX12_clearLeasts 1 = .ok (.istore_n 2, 1) := by decide +kernel
theorem dX12_clearLeasts_2 : decode cX12_clearLeasts 2 = .ok (.iload_n 2, 1) := by decide +kernel
theorem dX12_clearLeasts_3 : decode cX12_clearLeasts 3 = .ok (.iload_n 1, 1) := by decide +kernel
theorem dX12_clearLeasts_4 : decode cX12_clearLeasts 4 = .ok (.if_icmp .ge 25, 3) := by decide +kernel
theorem dX12_clearLeasts_7 : decode cX12_clearLeasts 7 = .ok (.aload_n 0, 1) := by decide +kernel
theorem dX12_clearLeasts_8 : decode cX12_clearLeasts 8 = .ok (.getfield 83, 3) := by decide +kernel
theorem dX12_clearLeasts_11 : decode cX12_clearLeasts 11 = .ok (.iload_n 2, 1) := by decide +kernel
theorem dX12_clearLeasts_12 : decode cX12_clearLeasts 12 = .ok (.ldc 217, 2) := by decide +kernel
theorem dX12_clearLeasts_14 : decode cX12_clearLeasts 14 = .ok (.iastore, 1) := by decide +kernel
theorem dX12_clearLeasts_15 : decode cX12_clearLeasts 15 = .ok (.aload_n 0, 1) := by decide +kernel
theorem dX12_clearLeasts_16 : decode cX12_clearLeasts 16 = .ok (.getfield 86, 3) := by decide +kernel
theorem dX12_clearLeasts_19 : decode cX12_clearLeasts 19 = .ok (.iload_n 2, 1) := by decide +kernel
theorem dX12_clearLeasts_20 : decode cX12_clearLeasts 20 = .ok (.ldc 217, 2) := by decide +kernel
theorem dX12_clearLeasts_22 : decode cX12_clearLeasts 22 = .ok (.iastore, 1) := by decide +kernel
theorem dX12_clearLeasts_23 : decode cX12_clearLeasts 23 = .ok (.iinc 2 1, 3) := by decide +kernel
theorem dX12_clearLeasts_26 : decode cX12_clearLeasts 26 = .ok (.goto (-24), 3) := by decide +kernel
theorem dX12_clearLeasts_29 : decode cX12_clearLeasts 29 = .ok (.return_, 1) := by decide +kernel
theorem dX12_difference_0 : decode cX12_difference 0 = .ok (.aload_n 0, 1) := by decide +kernel
theorem dX12_difference_1 : decode cX12_difference 1 = .ok (.getfield 86, 3) := by decide +kernel
theorem dX12_difference_4 : decode cX12_difference 4 = .ok (.iload_n 1, 1) := by decide +kernel
theorem dX12_difference_5 : decode cX12_difference 5 = .ok (.iaload, 1) := by decide +kernel
theorem dX12_difference_6 : decode cX12_difference 6 = .ok (.ldc 217, 2) := by decide +kernel
theorem dX12_difference_8 : decode cX12_difference 8 = .ok (.if_icmp .ne 9, 3) := by decide +kernel
theorem dX12_difference_11 : decode cX12_difference 11 = .ok (.ldc_w 258, 3) := by decide +kernel
theorem dX12_difference_14 : decode cX12_difference 14 = .ok (.goto 33, 3) := by decide +kernel
theorem dX12_difference_17 : decode cX12_difference 17 = .ok (.aload_n 0, 1) := by decide +kernel
theorem dX12_difference_18 : decode cX12_difference 18 = .ok (.getfield 83, 3) := by decide +kernel
theorem dX12_difference_21 : decode cX12_difference 21 = .ok (.iload_n 1, 1) := by decide +kernel
theorem dX12_difference_22 : decode cX12_difference 22 = .ok (.iaload, 1) := by decide +kernel
theorem dX12_difference_23 : decode cX12_difference 23 = .ok (.ldc 217, 2) := by decide +kernel
theorem dX12_difference_25 : decode cX12_difference 25 = .ok (.if_icmp .ne 9, 3) := by decide +kernel
theorem dX12_difference_28 : decode cX12_difference 28 = .ok (.ldc_w 259, 3) := by decide +kernel
theorem dX12_difference_31 : decode cX12_difference 31 = .ok (.goto 16, 3) := by decide +kernel
theorem dX12_difference_34 : decode cX12_difference 34 = .ok (.aload_n 0, 1) := by decide +kernel
theorem dX12_difference_35 : decode cX12_difference 35 = .ok (.getfield 86, 3) := by decide +kernel
theorem dX12_difference_38 : decode cX12_difference 38 = .ok (.iload_n 1, 1) := by decide +kernel
theorem dX12_difference_39 : decode cX12_difference 39 = .ok (.iaload, 1) := by decide +kernel
theorem dX12_difference_40 : decode cX12_difference 40 = .ok (.aload_n 0, 1) := by decide +kernel
theorem dX12_difference_41 : decode cX12_difference 41 = .ok (.getfield 83, 3) := by decide +kernel
theorem dX12_difference_44 : decode cX12_difference 44 = .ok (.iload_n 1, 1) := by decide +kernel
theorem dX12_difference_45 : decode cX12_difference 45 = .ok (.iaload, 1) := by decide +kernel
theorem dX12_difference_46 : decode cX12_difference 46 = .ok (.isub, 1) := by decide +kernel
theorem dX12_difference_47 : decode cX12_difference 47 = .ok (.ireturn, 1) := by decide +kernel
theorem dX12_each_0 : decode cX12_each 0 = .ok (.aload_n 0, 1) := by decide +kernel
theorem dX12_each_1 : decode cX12_each 1 = .ok (.iload_n 1, 1) := by decide +kernel
theorem dX12_each_2 : decode cX12_each 2 = .ok (.iload_n 2, 1) := by decide +kernel
theorem dX12_each_3 : decode cX12_each 3 = .ok (.iload_n 3, 1) := by decide +kernel
theorem dX12_each_4 : decode cX12_each 4 = .ok (.iconst 1, 1) := by decide +kernel
theorem dX12_each_5 : decode cX12_each 5 = .ok (.invokevirtual 245, 3) := by decide +kernel
theorem dX12_each_8 : decode cX12_each 8 = .ok (.ifCond .ne 5, 3) := by decide +kernel
theorem dX12_each_11 : decode cX12_each 11 = .ok (.iconst 0, 1) := by decide +kernel
theorem dX12_each_12 : decode cX12_each 12 = .ok (.ireturn, 1) := by decide +kernel
theorem dX12_each_13 : decode cX12_each 13 = .ok (.aload_n 0, 1) := by decide +kernel
theorem dX12_each_14 : decode cX12_each 14 = .ok (.iload_n 1, 1) := by decide +kernel
theorem dX12_each_15 : decode cX12_each 15 = .ok (.iload_n 2, 1) := by decide +kernel
theorem dX12_each_16 : decode cX12_each 16 = .ok (.iload_n 3, 1) := by decide +kernel
theorem dX12_each_17 : decode cX12_each 17 = .ok (.invokevirtual 218, 3) := by decide +kernel
theorem dX12_each_20 : decode cX12_each 20 = .ok (.aload_n 0, 1) := by decide +kernel
theorem dX12_each_21 : decode cX12_each 21 = .ok (.iload_n 3, 1) := by decide +kernel
theorem dX12_each_22 : decode cX12_each 22 = .ok (.invokevirtual 260, 3) := by decide +kernel
theorem dX12_each_25 : decode cX12_each 25 = .ok (.aload_n 0, 1) := by decide +kernel
theorem dX12_each_26 : decode cX12_each 26 = .ok (.getfield 22, 3) := by decide +kernel
theorem dX12_each_29 : decode cX12_each 29 = .ok (.iload_n 1, 1) := by decide +kernel
theorem dX12_each_30 : decode cX12_each 30 = .ok (.iaload, 1) := by decide +kernel
theorem dX12_each_31 : decode cX12_each 31 = .ok (.iconst 4, 1) := by decide +kernel
theorem dX12_each_32 : decode cX12_each 32 = .ok (.if_icmp .ne 7, 3) := by decide +kernel
theorem dX12_each_35 : decode cX12_each 35 = .ok (.iconst 1, 1) := by decide +kernel
theorem dX12_each_36 : decode cX12_each 36 = .ok (.goto 4, 3) := by decide +kernel
theorem dX12_each_39 : decode cX12_each 39 = .ok (.iconst 0, 1) := by decide +kernel
theorem dX12_each_40 : decode cX12_each 40 = .ok (.istore 4, 2) := by decide +kernel
theorem dX12_each_42 : decode cX12_each 42 = .ok (.iconst 0, 1) := by decide +kernel
theorem dX12_each_43 : decode cX12_each 43 = .ok (.istore 5, 2) := by decide +kernel
theorem dX12_each_45 : decode cX12_each 45 = .ok (.iload 5, 2) := by decide +kernel
theorem dX12_each_47 : decode cX12_each 47 = .ok (.iload 4, 2) := by decide +kernel
theorem dX12_each_49 : decode cX12_each 49 = .ok (.ifCond .eq 14, 3) := by decide +kernel
theorem dX12_each_52 : decode cX12_each 52 = .ok (.iconst 1, 1) := by decide +kernel
theorem dX12_each_53 : decode cX12_each 53 = .ok (.aload_n 0, 1) := by decide +kernel
theorem dX12_each_54 : decode cX12_each 54 = .ok (.getfield 25, 3) := by decide +kernel
theorem dX12_each_57 : decode cX12_each 57 = .ok (.iload_n 1, 1) := by decide +kernel
theorem dX12_each_58 : decode cX12_each 58 = .ok (.iaload, 1) := by decide +kernel
theorem dX12_each_59 : decode cX12_each 59 = .ok (.ishl, 1) := by decide +kernel
theorem dX12_each_60 : decode cX12_each 60 = .ok (.goto 4, 3) := by decide +kernel
theorem dX12_each_63 : decode cX12_each 63 = .ok (.iconst 1, 1) := by decide +kernel
theorem dX12_each_64 : decode cX12_each 64 = .ok (.if_icmp .ge 34, 3) := by decide +kernel
theorem dX12_each_67 : decode cX12_each 67 = .ok (.aload_n 0, 1) := by decide +kernel
theorem dX12_each_68 : decode cX12_each 68 = .ok (.iload_n 1, 1) := by decide +kernel
theorem dX12_each_69 : decode cX12_each 69 = .ok (.iload_n 3, 1) := by decide +kernel
theorem dX12_each_70 : decode cX12_each 70 = .ok (.iload 5, 2) := by decide +kernel
theorem dX12_each_72 : decode cX12_each 72 = .ok (.iload 4, 2) := by decide +kernel
theorem dX12_each_74 : decode cX12_each 74 = .ok (.aload_n 0, 1) := by decide +kernel
theorem dX12_each_75 : decode cX12_each 75 = .ok (.getfield 22, 3) := by decide +kernel
theorem dX12_each_78 : decode cX12_each 78 = .ok (.iload_n 1, 1) := by decide +kernel
theorem dX12_each_79 : decode cX12_each 79 = .ok (.iaload, 1) := by decide +kernel
theorem dX12_each_80 : decode cX12_each 80 = .ok (.iconst 3, 1) := by decide +kernel
theorem dX12_each_81 : decode cX12_each 81 = .ok (.if_icmp .ne 7, 3) := by decide +kernel
theorem dX12_each_84 : decode cX12_each 84 = .ok (.iconst 1, 1) := by decide +kernel
theorem dX12_each_85 : decode cX12_each 85 = .ok (.goto 4, 3) := by decide +kernel
theorem dX12_each_88 : decode cX12_each 88 = .ok (.iconst 0, 1) := by decide +kernel
theorem dX12_each_89 : decode cX12_each 89 = .ok (.invokevirtual 264, 3) := by decide +kernel
theorem dX12_each_92 : decode cX12_each 92 = .ok (.iinc 5 1, 3) := by decide +kernel
theorem dX12_each_95 : decode cX12_each 95 = .ok (.goto (-50), 3) := by decide +kernel
theorem dX12_each_98 : decode cX12_each 98 = .ok (.aload_n 0, 1) := by decide +kernel
theorem dX12_each_99 : decode cX12_each 99 = .ok (.iload_n 3, 1) := by decide +kernel
theorem dX12_each_100 : decode cX12_each 100 = .ok (.putfield 268, 3) := by decide +kernel
theorem dX12_each_103 : decode cX12_each 103 = .ok (.iconst 0, 1) := by decide +kernel
theorem dX12_each_104 : decode cX12_each 104 = .ok (.istore 5, 2) := by decide +kernel
theorem dX12_each_106 : decode cX12_each 106 = .ok (.iconst 0, 1) := by decide +kernel
theorem dX12_each_107 : decode cX12_each 107 = .ok (.istore 6, 2) := by decide +kernel
theorem dX12_each_109 : decode cX12_each 109 = .ok (.iload 6, 2) := by decide +kernel
theorem dX12_each_111 : decode cX12_each 111 = .ok (.iload_n 3, 1) := by decide +kernel
theorem dX12_each_112 : decode cX12_each 112 = .ok (.if_icmp .ge 42, 3) := by decide +kernel
theorem dX12_each_115 : decode cX12_each 115 = .ok (.aload_n 0, 1) := by decide +kernel
theorem dX12_each_116 : decode cX12_each 116 = .ok (.getfield 58, 3) := by decide +kernel
theorem dX12_each_119 : decode cX12_each 119 = .ok (.iload 6, 2) := by decide +kernel
theorem dX12_each_121 : decode cX12_each 121 = .ok (.aload_n 0, 1) := by decide +kernel
theorem dX12_each_122 : decode cX12_each 122 = .ok (.iload 6, 2) := by decide +kernel
theorem dX12_each_124 : decode cX12_each 124 = .ok (.invokevirtual 271, 3) := by decide +kernel
theorem dX12_each_127 : decode cX12_each 127 = .ok (.iastore, 1) := by decide +kernel
theorem dX12_each_128 : decode cX12_each 128 = .ok (.iload 5, 2) := by decide +kernel
theorem dX12_each_130 : decode cX12_each 130 = .ok (.aload_n 0, 1) := by decide +kernel
theorem dX12_each_131 : decode cX12_each 131 = .ok (.getfield 58, 3) := by decide +kernel
theorem dX12_each_134 : decode cX12_each 134 = .ok (.iload 6, 2) := by decide +kernel
theorem dX12_each_136 : decode cX12_each 136 = .ok (.iaload, 1) := by decide +kernel
theorem dX12_each_137 : decode cX12_each 137 = .ok (.ifCond .ge 7, 3) := by decide +kernel
theorem dX12_each_140 : decode cX12_each 140 = .ok (.iconst 1, 1) := by decide +kernel
theorem dX12_each_141 : decode cX12_each 141 = .ok (.goto 4, 3) := by decide +kernel
theorem dX12_each_144 : decode cX12_each 144 = .ok (.iconst 0, 1) := by decide +kernel
theorem dX12_each_145 : decode cX12_each 145 = .ok (.iadd, 1) := by decide +kernel
theorem dX12_each_146 : decode cX12_each 146 = .ok (.istore 5, 2) := by decide +kernel
theorem dX12_each_148 : decode cX12_each 148 = .ok (.iinc 6 1, 3) := by decide +kernel
theorem dX12_each_151 : decode cX12_each 151 = .ok (.goto (-42), 3) := by decide +kernel
theorem dX12_each_154 : decode cX12_each 154 = .ok (.iload 5, 2) := by decide +kernel
theorem dX12_each_156 : decode cX12_each 156 = .ok (.ireturn, 1) := by decide +kernel
theorem dX12_halfCosts_0 : decode cX12_halfCosts 0 = .ok (.iconst 0, 1) := by decide +kernel
theorem dX12_halfCosts_1 : decode cX12_halfCosts 1 = .ok (.istore 5, 2) := by decide +kernel
theorem dX12_halfCosts_3 : decode cX12_halfCosts 3 = .ok (.iload 5, 2) := by decide +kernel
theorem dX12_halfCosts_5 : decode cX12_halfCosts 5 = .ok (.iload_n 3, 1) := by decide +kernel
theorem dX12_halfCosts_6 : decode cX12_halfCosts 6 = .ok (.if_icmp .ge 268, 3) := by decide +kernel
theorem dX12_halfCosts_9 : decode cX12_halfCosts 9 = .ok (.iload 4, 2) := by decide +kernel
theorem dX12_halfCosts_11 : decode cX12_halfCosts 11 = .ok (.ifCond .eq 14, 3) := by decide +kernel
theorem dX12_halfCosts_14 : decode cX12_halfCosts 14 = .ok (.aload_n 0, 1) := by decide +kernel
theorem dX12_halfCosts_15 : decode cX12_halfCosts 15 = .ok (.iload_n 1, 1) := by decide +kernel
theorem dX12_halfCosts_16 : decode cX12_halfCosts 16 = .ok (.iload_n 3, 1) := by decide +kernel
theorem dX12_halfCosts_17 : decode cX12_halfCosts 17 = .ok (.iload 5, 2) := by decide +kernel
theorem dX12_halfCosts_19 : decode cX12_halfCosts 19 = .ok (.invokevirtual 177, 3) := by decide +kernel
theorem dX12_halfCosts_22 : decode cX12_halfCosts 22 = .ok (.goto 5, 3) := by decide +kernel
theorem dX12_halfCosts_25 : decode cX12_halfCosts 25 = .ok (.iload 5, 2) := by decide +kernel
theorem dX12_halfCosts_27 : decode cX12_halfCosts 27 = .ok (.istore 6, 2) := by decide +kernel
theorem dX12_halfCosts_29 : decode cX12_halfCosts 29 = .ok (.aload_n 0, 1) := by decide +kernel
theorem dX12_halfCosts_30 : decode cX12_halfCosts 30 = .ok (.iload_n 1, 1) := by decide +kernel
theorem dX12_halfCosts_31 : decode cX12_halfCosts 31 = .ok (.iload 5, 2) := by decide +kernel
theorem dX12_halfCosts_33 : decode cX12_halfCosts 33 = .ok (.invokevirtual 207, 3) := by decide +kernel
theorem dX12_halfCosts_36 : decode cX12_halfCosts 36 = .ok (.istore 7, 2) := by decide +kernel
theorem dX12_halfCosts_38 : decode cX12_halfCosts 38 = .ok (.iconst 0, 1) := by decide +kernel
theorem dX12_halfCosts_39 : decode cX12_halfCosts 39 = .ok (.istore 8, 2) := by decide +kernel
theorem dX12_halfCosts_41 : decode cX12_halfCosts 41 = .ok (.iload 8, 2) := by decide +kernel
theorem dX12_halfCosts_43 : decode cX12_halfCosts 43 = .ok (.iconst 1, 1) := by decide +kernel
theorem dX12_halfCosts_44 : decode cX12_halfCosts 44 = .ok (.aload_n 0, 1) := by decide +kernel
theorem dX12_halfCosts_45 : decode cX12_halfCosts 45 = .ok (.getfield 25, 3) := by decide +kernel
theorem dX12_halfCosts_48 : decode cX12_halfCosts 48 = .ok (.iload_n 1, 1) := by decide +kernel
theorem dX12_halfCosts_49 : decode cX12_halfCosts 49 = .ok (.iaload, 1) := by decide +kernel
theorem dX12_halfCosts_50 : decode cX12_halfCosts 50 = .ok (.ishl, 1) := by decide +kernel
theorem dX12_halfCosts_51 : decode cX12_halfCosts 51 = .ok (.if_icmp .ge 217, 3) := by decide +kernel
theorem dX12_halfCosts_54 : decode cX12_halfCosts 54 = .ok (.iconst 0, 1) := by decide +kernel
theorem dX12_halfCosts_55 : decode cX12_halfCosts 55 = .ok (.istore 9, 2) := by decide +kernel
theorem dX12_halfCosts_57 : decode cX12_halfCosts 57 = .ok (.iload 9, 2) := by decide +kernel
theorem dX12_halfCosts_59 : decode cX12_halfCosts 59 = .ok (.iconst 2, 1) := by decide +kernel
theorem dX12_halfCosts_60 : decode cX12_halfCosts 60 = .ok (.if_icmp .ge 202, 3) := by decide +kernel
theorem dX12_halfCosts_63 : decode cX12_halfCosts 63 = .ok (.iload 9, 2) := by decide +kernel
theorem dX12_halfCosts_65 : decode cX12_halfCosts 65 = .ok (.iconst 1, 1) := by decide +kernel
theorem dX12_halfCosts_66 : decode cX12_halfCosts 66 = .ok (.if_icmp .ne 17, 3) := by decide +kernel
theorem dX12_halfCosts_69 : decode cX12_halfCosts 69 = .ok (.aload_n 0, 1) := by decide +kernel
theorem dX12_halfCosts_70 : decode cX12_halfCosts 70 = .ok (.getfield 95, 3) := by decide +kernel
theorem dX12_halfCosts_73 : decode cX12_halfCosts 73 = .ok (.iload 6, 2) := by decide +kernel
theorem dX12_halfCosts_75 : decode cX12_halfCosts 75 = .ok (.iaload, 1) := by decide +kernel
theorem dX12_halfCosts_76 : decode cX12_halfCosts 76 = .ok (.iconst 0, 1) := by decide +kernel
theorem dX12_halfCosts_77 : decode cX12_halfCosts 77 = .ok (.invokestatic 274, 3) := by decide +kernel
theorem dX12_halfCosts_80 : decode cX12_halfCosts 80 = .ok (.goto 15, 3) := by decide +kernel
theorem dX12_halfCosts_83 : decode cX12_halfCosts 83 = .ok (.aload_n 0, 1) := by decide +kernel
theorem dX12_halfCosts_84 : decode cX12_halfCosts 84 = .ok (.getfield 95, 3) := by decide +kernel
theorem dX12_halfCosts_87 : decode cX12_halfCosts 87 = .ok (.iload 6, 2) := by decide +kernel
theorem dX12_halfCosts_89 : decode cX12_halfCosts 89 = .ok (.iaload, 1) := by decide +kernel
theorem dX12_halfCosts_90 : decode cX12_halfCosts 90 = .ok (.ineg, 1) := by decide +kernel
theorem dX12_halfCosts_91 : decode cX12_halfCosts 91 = .ok (.iconst 0, 1) := by decide +kernel
theorem dX12_halfCosts_92 : decode cX12_halfCosts 92 = .ok (.invokestatic 274, 3) := by decide +kernel
theorem dX12_halfCosts_95 : decode cX12_halfCosts 95 = .ok (.istore 10, 2) := by decide +kernel
theorem dX12_halfCosts_97 : decode cX12_halfCosts 97 = .ok (.iload 4, 2) := by decide +kernel
theorem dX12_halfCosts_99 : decode cX12_halfCosts 99 = .ok (.ifCond .eq 20, 3) := by decide +kernel
theorem dX12_halfCosts_102 : decode cX12_halfCosts 102 = .ok (.iload 10, 2) := by decide +kernel
theorem dX12_halfCosts_104 : decode cX12_halfCosts 104 = .ok (.aload_n 0, 1) := by decide +kernel
theorem dX12_halfCosts_105 : decode cX12_halfCosts 105 = .ok (.getfield 98, 3) := by decide +kernel
theorem dX12_halfCosts_108 : decode cX12_halfCosts 108 = .ok (.iconst 2, 1) := by decide +kernel
theorem dX12_halfCosts_109 : decode cX12_halfCosts 109 = .ok (.iload 6, 2) := by decide +kernel
theorem dX12_halfCosts_111 : decode cX12_halfCosts 111 = .ok (.imul, 1) := by decide +kernel
theorem dX12_halfCosts_112 : decode cX12_halfCosts 112 = .ok (.iload 9, 2) := by decide +kernel
theorem dX12_halfCosts_114 : decode cX12_halfCosts 114 = .ok (.iadd, 1) := by decide +kernel
theorem dX12_halfCosts_115 : decode cX12_halfCosts 115 = .ok (.iaload, 1) := by decide +kernel
theorem dX12_halfCosts_116 : decode cX12_halfCosts 116 = .ok (.iadd, 1) := by decide +kernel
theorem dX12_halfCosts_117 : decode cX12_halfCosts 117 = .ok (.istore 10, 2) := by decide +kernel
theorem dX12_halfCosts_119 : decode cX12_halfCosts 119 = .ok (.iload 7, 2) := by decide +kernel
theorem dX12_halfCosts_121 : decode cX12_halfCosts 121 = .ok (.istore 11, 2) := by decide +kernel
theorem dX12_halfCosts_123 : decode cX12_halfCosts 123 = .ok (.iconst 0, 1) := by decide +kernel
theorem dX12_halfCosts_124 : decode cX12_halfCosts 124 = .ok (.istore 12, 2) := by decide +kernel
theorem dX12_halfCosts_126 : decode cX12_halfCosts 126 = .ok (.iload 12, 2) := by decide +kernel
theorem dX12_halfCosts_128 : decode cX12_halfCosts 128 = .ok (.aload_n 0, 1) := by decide +kernel
theorem dX12_halfCosts_129 : decode cX12_halfCosts 129 = .ok (.iload_n 1, 1) := by decide +kernel
theorem dX12_halfCosts_130 : decode cX12_halfCosts 130 = .ok (.invokevirtual 148, 3) := by decide +kernel
theorem dX12_halfCosts_133 : decode cX12_halfCosts 133 = .ok (.if_icmp .ge 102, 3) := by decide +kernel
theorem dX12_halfCosts_136 : decode cX12_halfCosts 136 = .ok (.aload_n 0, 1) := by decide +kernel
theorem dX12_halfCosts_137 : decode cX12_halfCosts 137 = .ok (.iload_n 1, 1) := by decide +kernel
theorem dX12_halfCosts_138 : decode cX12_halfCosts 138 = .ok (.iload 5, 2) := by decide +kernel
theorem dX12_halfCosts_140 : decode cX12_halfCosts 140 = .ok (.iload 12, 2) := by decide +kernel
theorem dX12_halfCosts_142 : decode cX12_halfCosts 142 = .ok (.invokevirtual 170, 3) := by decide +kernel
theorem dX12_halfCosts_145 : decode cX12_halfCosts 145 = .ok (.ifCond .ne 6, 3) := by decide +kernel
theorem dX12_halfCosts_148 : decode cX12_halfCosts 148 = .ok (.goto 81, 3) := by decide +kernel
theorem dX12_halfCosts_151 : decode cX12_halfCosts 151 = .ok (.iload 4, 2) := by decide +kernel
theorem dX12_halfCosts_153 : decode cX12_halfCosts 153 = .ok (.iload 12, 2) := by decide +kernel
theorem dX12_halfCosts_155 : decode cX12_halfCosts 155 = .ok (.aload_n 0, 1) := by decide +kernel
theorem dX12_halfCosts_156 : decode cX12_halfCosts 156 = .ok (.getfield 28, 3) := by decide +kernel
theorem dX12_halfCosts_159 : decode cX12_halfCosts 159 = .ok (.iload_n 1, 1) := by decide +kernel
theorem dX12_halfCosts_160 : decode cX12_halfCosts 160 = .ok (.iaload, 1) := by decide +kernel
theorem dX12_halfCosts_161 : decode cX12_halfCosts 161 = .ok (.if_icmp .lt 7, 3) := by decide +kernel
theorem dX12_halfCosts_164 : decode cX12_halfCosts 164 = .ok (.iconst 1, 1) := by decide +kernel
theorem dX12_halfCosts_165 : decode cX12_halfCosts 165 = .ok (.goto 4, 3) := by decide +kernel
theorem dX12_halfCosts_168 : decode cX12_halfCosts 168 = .ok (.iconst 0, 1) := by decide +kernel
theorem dX12_halfCosts_169 : decode cX12_halfCosts 169 = .ok (.if_icmp .ne 7, 3) := by decide +kernel
theorem dX12_halfCosts_172 : decode cX12_halfCosts 172 = .ok (.iconst 1, 1) := by decide +kernel
theorem dX12_halfCosts_173 : decode cX12_halfCosts 173 = .ok (.goto 4, 3) := by decide +kernel
theorem dX12_halfCosts_176 : decode cX12_halfCosts 176 = .ok (.iconst 0, 1) := by decide +kernel
theorem dX12_halfCosts_177 : decode cX12_halfCosts 177 = .ok (.istore 13, 2) := by decide +kernel
theorem dX12_halfCosts_179 : decode cX12_halfCosts 179 = .ok (.iload 13, 2) := by decide +kernel
theorem dX12_halfCosts_181 : decode cX12_halfCosts 181 = .ok (.ifCond .eq 45, 3) := by decide +kernel
theorem dX12_halfCosts_184 : decode cX12_halfCosts 184 = .ok (.iload 10, 2) := by decide +kernel
theorem dX12_halfCosts_186 : decode cX12_halfCosts 186 = .ok (.aload_n 0, 1) := by decide +kernel
theorem dX12_halfCosts_187 : decode cX12_halfCosts 187 = .ok (.iload_n 2, 1) := by decide +kernel
theorem dX12_halfCosts_188 : decode cX12_halfCosts 188 = .ok (.iload 11, 2) := by decide +kernel
theorem dX12_halfCosts_190 : decode cX12_halfCosts 190 = .ok (.aload_n 0, 1) := by decide +kernel
theorem dX12_halfCosts_191 : decode cX12_halfCosts 191 = .ok (.iload_n 1, 1) := by decide +kernel
theorem dX12_halfCosts_192 : decode cX12_halfCosts 192 = .ok (.iload 8, 2) := by decide +kernel
theorem dX12_halfCosts_194 : decode cX12_halfCosts 194 = .ok (.iload 9, 2) := by decide +kernel
theorem dX12_halfCosts_196 : decode cX12_halfCosts 196 = .ok (.iload 4, 2) := by decide +kernel
theorem dX12_halfCosts_198 : decode cX12_halfCosts 198 = .ok (.ifCond .eq 17, 3) := by decide +kernel
theorem dX12_halfCosts_201 : decode cX12_halfCosts 201 = .ok (.iload 12, 2) := by decide +kernel
theorem dX12_halfCosts_203 : decode cX12_halfCosts 203 = .ok (.aload_n 0, 1) := by decide +kernel
theorem dX12_halfCosts_204 : decode cX12_halfCosts 204 = .ok (.getfield 28, 3) := by decide +kernel
theorem dX12_halfCosts_207 : decode cX12_halfCosts 207 = .ok (.iload_n 1, 1) := by decide +kernel
theorem dX12_halfCosts_208 : decode cX12_halfCosts 208 = .ok (.iaload, 1) := by decide +kernel
theorem dX12_halfCosts_209 : decode cX12_halfCosts 209 = .ok (.isub, 1) := by decide +kernel
theorem dX12_halfCosts_210 : decode cX12_halfCosts 210 = .ok (.iconst 1, 1) := by decide +kernel
theorem dX12_halfCosts_211 : decode cX12_halfCosts 211 = .ok (.iadd, 1) := by decide +kernel
theorem dX12_halfCosts_212 : decode cX12_halfCosts 212 = .ok (.goto 5, 3) := by decide +kernel
theorem dX12_halfCosts_215 : decode cX12_halfCosts 215 = .ok (.iload 12, 2) := by decide +kernel
theorem dX12_halfCosts_217 : decode cX12_halfCosts 217 = .ok (.invokevirtual 193, 3) := by decide +kernel
theorem dX12_halfCosts_220 : decode cX12_halfCosts 220 = .ok (.invokevirtual 210, 3) := by decide +kernel
theorem dX12_halfCosts_223 : decode cX12_halfCosts 223 = .ok (.iadd, 1) := by decide +kernel
theorem dX12_halfCosts_224 : decode cX12_halfCosts 224 = .ok (.istore 10, 2) := by decide +kernel
theorem dX12_halfCosts_226 : decode cX12_halfCosts 226 = .ok (.iinc 11 1, 3) := by decide +kernel
theorem dX12_halfCosts_229 : decode cX12_halfCosts 229 = .ok (.iinc 12 1, 3) := by decide +kernel
theorem dX12_halfCosts_232 : decode cX12_halfCosts 232 = .ok (.goto (-106), 3) := by decide +kernel
theorem dX12_halfCosts_235 : decode cX12_halfCosts 235 = .ok (.aload_n 0, 1) := by decide +kernel
theorem dX12_halfCosts_236 : decode cX12_halfCosts 236 = .ok (.getfield 61, 3) := by decide +kernel
theorem dX12_halfCosts_239 : decode cX12_halfCosts 239 = .ok (.sipush 128, 3) := by decide +kernel
theorem dX12_halfCosts_242 : decode cX12_halfCosts 242 = .ok (.iload 5, 2) := by decide +kernel
theorem dX12_halfCosts_244 : decode cX12_halfCosts 244 = .ok (.imul, 1) := by decide +kernel
theorem dX12_halfCosts_245 : decode cX12_halfCosts 245 = .ok (.iconst 2, 1) := by decide +kernel
theorem dX12_halfCosts_246 : decode cX12_halfCosts 246 = .ok (.iload 8, 2) := by decide +kernel
theorem dX12_halfCosts_248 : decode cX12_halfCosts 248 = .ok (.imul, 1) := by decide +kernel
theorem dX12_halfCosts_249 : decode cX12_halfCosts 249 = .ok (.iadd, 1) := by decide +kernel
theorem dX12_halfCosts_250 : decode cX12_halfCosts 250 = .ok (.iload 9, 2) := by decide +kernel
theorem dX12_halfCosts_252 : decode cX12_halfCosts 252 = .ok (.iadd, 1) := by decide +kernel
theorem dX12_halfCosts_253 : decode cX12_halfCosts 253 = .ok (.iload 10, 2) := by decide +kernel
theorem dX12_halfCosts_255 : decode cX12_halfCosts 255 = .ok (.iastore, 1) := by decide +kernel
theorem dX12_halfCosts_256 : decode cX12_halfCosts 256 = .ok (.iinc 9 1, 3) := by decide +kernel
theorem dX12_halfCosts_259 : decode cX12_halfCosts 259 = .ok (.goto (-202), 3) := by decide +kernel
theorem dX12_halfCosts_262 : decode cX12_halfCosts 262 = .ok (.iinc 8 1, 3) := by decide +kernel
theorem dX12_halfCosts_265 : decode cX12_halfCosts 265 = .ok (.goto (-224), 3) := by decide +kernel
theorem dX12_halfCosts_268 : decode cX12_halfCosts 268 = .ok (.iinc 5 1, 3) := by decide +kernel
theorem dX12_halfCosts_271 : decode cX12_halfCosts 271 = .ok (.goto (-268), 3) := by decide +kernel
theorem dX12_halfCosts_274 : decode cX12_halfCosts 274 = .ok (.return_, 1) := by decide +kernel
theorem dX12_half_0 : decode cX12_half 0 = .ok (.aload_n 0, 1) := by decide +kernel
theorem dX12_half_1 : decode cX12_half 1 = .ok (.iload_n 1, 1) := by decide +kernel
theorem dX12_half_2 : decode cX12_half 2 = .ok (.iload_n 2, 1) := by decide +kernel
theorem dX12_half_3 : decode cX12_half 3 = .ok (.iload_n 3, 1) := by decide +kernel
theorem dX12_half_4 : decode cX12_half 4 = .ok (.iload 4, 2) := by decide +kernel
theorem dX12_half_6 : decode cX12_half 6 = .ok (.invokevirtual 277, 3) := by decide +kernel
theorem dX12_half_9 : decode cX12_half 9 = .ok (.aload_n 0, 1) := by decide +kernel
theorem dX12_half_10 : decode cX12_half 10 = .ok (.iload_n 3, 1) := by decide +kernel
theorem dX12_half_11 : decode cX12_half 11 = .ok (.invokevirtual 260, 3) := by decide +kernel
theorem dX12_half_14 : decode cX12_half 14 = .ok (.aload_n 0, 1) := by decide +kernel
theorem dX12_half_15 : decode cX12_half 15 = .ok (.iload_n 1, 1) := by decide +kernel
theorem dX12_half_16 : decode cX12_half 16 = .ok (.iload_n 3, 1) := by decide +kernel
theorem dX12_half_17 : decode cX12_half 17 = .ok (.iconst 0, 1) := by decide +kernel
theorem dX12_half_18 : decode cX12_half 18 = .ok (.iconst 0, 1) := by decide +kernel
theorem dX12_half_19 : decode cX12_half 19 = .ok (.iconst 0, 1) := by decide +kernel
theorem dX12_half_20 : decode cX12_half 20 = .ok (.invokevirtual 264, 3) := by decide +kernel
theorem dX12_half_23 : decode cX12_half 23 = .ok (.iconst 0, 1) := by decide +kernel
theorem dX12_half_24 : decode cX12_half 24 = .ok (.istore 5, 2) := by decide +kernel
theorem dX12_half_26 : decode cX12_half 26 = .ok (.iload 5, 2) := by decide +kernel
theorem dX12_half_28 : decode cX12_half 28 = .ok (.iload_n 3, 1) := by decide +kernel
theorem dX12_half_29 : decode cX12_half 29 = .ok (.if_icmp .ge 38, 3) := by decide +kernel
theorem dX12_half_32 : decode cX12_half 32 = .ok (.aload_n 0, 1) := by decide +kernel
theorem dX12_half_33 : decode cX12_half 33 = .ok (.getfield 58, 3) := by decide +kernel
theorem dX12_half_36 : decode cX12_half 36 = .ok (.iload 4, 2) := by decide +kernel
theorem dX12_half_38 : decode cX12_half 38 = .ok (.ifCond .eq 14, 3) := by decide +kernel
theorem dX12_half_41 : decode cX12_half 41 = .ok (.aload_n 0, 1) := by decide +kernel
theorem dX12_half_42 : decode cX12_half 42 = .ok (.iload_n 1, 1) := by decide +kernel
theorem dX12_half_43 : decode cX12_half 43 = .ok (.iload_n 3, 1) := by decide +kernel
theorem dX12_half_44 : decode cX12_half 44 = .ok (.iload 5, 2) := by decide +kernel
theorem dX12_half_46 : decode cX12_half 46 = .ok (.invokevirtual 177, 3) := by decide +kernel
theorem dX12_half_49 : decode cX12_half 49 = .ok (.goto 5, 3) := by decide +kernel
theorem dX12_half_52 : decode cX12_half 52 = .ok (.iload 5, 2) := by decide +kernel
theorem dX12_half_54 : decode cX12_half 54 = .ok (.aload_n 0, 1) := by decide +kernel
theorem dX12_half_55 : decode cX12_half 55 = .ok (.iload 5, 2) := by decide +kernel
theorem dX12_half_57 : decode cX12_half 57 = .ok (.invokevirtual 271, 3) := by decide +kernel
theorem dX12_half_60 : decode cX12_half 60 = .ok (.iastore, 1) := by decide +kernel
theorem dX12_half_61 : decode cX12_half 61 = .ok (.iinc 5 1, 3) := by decide +kernel
theorem dX12_half_64 : decode cX12_half 64 = .ok (.goto (-38), 3) := by decide +kernel
theorem dX12_half_67 : decode cX12_half 67 = .ok (.iconst 0, 1) := by decide +kernel
theorem dX12_half_68 : decode cX12_half 68 = .ok (.istore 5, 2) := by decide +kernel
theorem dX12_half_70 : decode cX12_half 70 = .ok (.iload 5, 2) := by decide +kernel
theorem dX12_half_72 : decode cX12_half 72 = .ok (.iload_n 3, 1) := by decide +kernel
theorem dX12_half_73 : decode cX12_half 73 = .ok (.if_icmp .ge 85, 3) := by decide +kernel
theorem dX12_half_76 : decode cX12_half 76 = .ok (.aload_n 0, 1) := by decide +kernel
theorem dX12_half_77 : decode cX12_half 77 = .ok (.getfield 58, 3) := by decide +kernel
theorem dX12_half_80 : decode cX12_half 80 = .ok (.iload 5, 2) := by decide +kernel
theorem dX12_half_82 : decode cX12_half 82 = .ok (.iaload, 1) := by decide +kernel
theorem dX12_half_83 : decode cX12_half 83 = .ok (.aload_n 0, 1) := by decide +kernel
theorem dX12_half_84 : decode cX12_half 84 = .ok (.getfield 95, 3) := by decide +kernel
theorem dX12_half_87 : decode cX12_half 87 = .ok (.iload 5, 2) := by decide +kernel
theorem dX12_half_89 : decode cX12_half 89 = .ok (.iaload, 1) := by decide +kernel
theorem dX12_half_90 : decode cX12_half 90 = .ok (.isub, 1) := by decide +kernel
theorem dX12_half_91 : decode cX12_half 91 = .ok (.aload_n 0, 1) := by decide +kernel
theorem dX12_half_92 : decode cX12_half 92 = .ok (.getfield 98, 3) := by decide +kernel
theorem dX12_half_95 : decode cX12_half 95 = .ok (.iconst 2, 1) := by decide +kernel
theorem dX12_half_96 : decode cX12_half 96 = .ok (.iload 5, 2) := by decide +kernel
theorem dX12_half_98 : decode cX12_half 98 = .ok (.imul, 1) := by decide +kernel
theorem dX12_half_99 : decode cX12_half 99 = .ok (.iconst 1, 1) := by decide +kernel
theorem dX12_half_100 : decode cX12_half 100 = .ok (.iadd, 1) := by decide +kernel
theorem dX12_half_101 : decode cX12_half 101 = .ok (.iaload, 1) := by decide +kernel
theorem dX12_half_102 : decode cX12_half 102 = .ok (.aload_n 0, 1) := by decide +kernel
theorem dX12_half_103 : decode cX12_half 103 = .ok (.getfield 98, 3) := by decide +kernel
theorem dX12_half_106 : decode cX12_half 106 = .ok (.iconst 2, 1) := by decide +kernel
theorem dX12_half_107 : decode cX12_half 107 = .ok (.iload 5, 2) := by decide +kernel
theorem dX12_half_109 : decode cX12_half 109 = .ok (.imul, 1) := by decide +kernel
theorem dX12_half_110 : decode cX12_half 110 = .ok (.iaload, 1) := by decide +kernel
theorem dX12_half_111 : decode cX12_half 111 = .ok (.isub, 1) := by decide +kernel
theorem dX12_half_112 : decode cX12_half 112 = .ok (.isub, 1) := by decide +kernel
theorem dX12_half_113 : decode cX12_half 113 = .ok (.istore 6, 2) := by decide +kernel
theorem dX12_half_115 : decode cX12_half 115 = .ok (.aload_n 0, 1) := by decide +kernel
theorem dX12_half_116 : decode cX12_half 116 = .ok (.getfield 95, 3) := by decide +kernel
theorem dX12_half_119 : decode cX12_half 119 = .ok (.iload 5, 2) := by decide +kernel
theorem dX12_half_121 : decode cX12_half 121 = .ok (.iload 6, 2) := by decide +kernel
theorem dX12_half_123 : decode cX12_half 123 = .ok (.sipush (-5000), 3) := by decide +kernel
theorem dX12_half_126 : decode cX12_half 126 = .ok (.if_icmp .ge 9, 3) := by decide +kernel
theorem dX12_half_129 : decode cX12_half 129 = .ok (.sipush (-5000), 3) := by decide +kernel
theorem dX12_half_132 : decode cX12_half 132 = .ok (.goto 19, 3) := by decide +kernel
theorem dX12_half_135 : decode cX12_half 135 = .ok (.iload 6, 2) := by decide +kernel
theorem dX12_half_137 : decode cX12_half 137 = .ok (.sipush 5000, 3) := by decide +kernel
theorem dX12_half_140 : decode cX12_half 140 = .ok (.if_icmp .le 9, 3) := by decide +kernel
theorem dX12_half_143 : decode cX12_half 143 = .ok (.sipush 5000, 3) := by decide +kernel
theorem dX12_half_146 : decode cX12_half 146 = .ok (.goto 5, 3) := by decide +kernel
theorem dX12_half_149 : decode cX12_half 149 = .ok (.iload 6, 2) := by decide +kernel
theorem dX12_half_151 : decode cX12_half 151 = .ok (.iastore, 1) := by decide +kernel
theorem dX12_half_152 : decode cX12_half 152 = .ok (.iinc 5 1, 3) := by decide +kernel
theorem dX12_half_155 : decode cX12_half 155 = .ok (.goto (-85), 3) := by decide +kernel
theorem dX12_half_158 : decode cX12_half 158 = .ok (.return_, 1) := by decide +kernel
theorem dX12_talk_0 : decode cX12_talk 0 = .ok (.aload_n 0, 1) := by decide +kernel
theorem dX12_talk_1 : decode cX12_talk 1 = .ok (.iload_n 1, 1) := by decide +kernel
theorem dX12_talk_2 : decode cX12_talk 2 = .ok (.invokevirtual 152, 3) := by decide +kernel
theorem dX12_talk_5 : decode cX12_talk 5 = .ok (.ifCond .eq 70, 3) := by decide +kernel
theorem dX12_talk_8 : decode cX12_talk 8 = .ok (.aload_n 0, 1) := by decide +kernel
theorem dX12_talk_9 : decode cX12_talk 9 = .ok (.iload_n 2, 1) := by decide +kernel
theorem dX12_talk_10 : decode cX12_talk 10 = .ok (.iconst 1, 1) := by decide +kernel
theorem dX12_talk_11 : decode cX12_talk 11 = .ok (.invokevirtual 137, 3) := by decide +kernel
theorem dX12_talk_14 : decode cX12_talk 14 = .ok (.ifCond .eq 61, 3) := by decide +kernel
theorem dX12_talk_17 : decode cX12_talk 17 = .ok (.aload_n 0, 1) := by decide +kernel
theorem dX12_talk_18 : decode cX12_talk 18 = .ok (.aload_n 0, 1) := by decide +kernel
theorem dX12_talk_19 : decode cX12_talk 19 = .ok (.getfield 22, 3) := by decide +kernel
theorem dX12_talk_22 : decode cX12_talk 22 = .ok (.iload_n 1, 1) := by decide +kernel
theorem dX12_talk_23 : decode cX12_talk 23 = .ok (.iaload, 1) := by decide +kernel
theorem dX12_talk_24 : decode cX12_talk 24 = .ok (.iconst 5, 1) := by decide +kernel
theorem dX12_talk_25 : decode cX12_talk 25 = .ok (.if_icmp .ne 7, 3) := by decide +kernel
theorem dX12_talk_28 : decode cX12_talk 28 = .ok (.iconst 1, 1) := by decide +kernel
theorem dX12_talk_29 : decode cX12_talk 29 = .ok (.goto 4, 3) := by decide +kernel
theorem dX12_talk_32 : decode cX12_talk 32 = .ok (.iconst 0, 1) := by decide +kernel
theorem dX12_talk_33 : decode cX12_talk 33 = .ok (.iconst 2, 1) := by decide +kernel
theorem dX12_talk_34 : decode cX12_talk 34 = .ok (.invokevirtual 133, 3) := by decide +kernel
theorem dX12_talk_37 : decode cX12_talk 37 = .ok (.ifCond .eq 38, 3) := by decide +kernel
theorem dX12_talk_40 : decode cX12_talk 40 = .ok (.aload_n 0, 1) := by decide +kernel
theorem dX12_talk_41 : decode cX12_talk 41 = .ok (.iload_n 3, 1) := by decide +kernel
theorem dX12_talk_42 : decode cX12_talk 42 = .ok (.iconst 3, 1) := by decide +kernel
theorem dX12_talk_43 : decode cX12_talk 43 = .ok (.invokevirtual 197, 3) := by decide +kernel
theorem dX12_talk_46 : decode cX12_talk 46 = .ok (.ifCond .eq 29, 3) := by decide +kernel
theorem dX12_talk_49 : decode cX12_talk 49 = .ok (.aload_n 0, 1) := by decide +kernel
theorem dX12_talk_50 : decode cX12_talk 50 = .ok (.iload 4, 2) := by decide +kernel
theorem dX12_talk_52 : decode cX12_talk 52 = .ok (.iconst 1, 1) := by decide +kernel
theorem dX12_talk_53 : decode cX12_talk 53 = .ok (.if_icmp .lt 14, 3) := by decide +kernel
theorem dX12_talk_56 : decode cX12_talk 56 = .ok (.iload 4, 2) := by decide +kernel
theorem dX12_talk_58 : decode cX12_talk 58 = .ok (.bipush 10, 2) := by decide +kernel
theorem dX12_talk_60 : decode cX12_talk 60 = .ok (.if_icmp .gt 7, 3) := by decide +kernel
theorem dX12_talk_63 : decode cX12_talk 63 = .ok (.iconst 1, 1) := by decide +kernel
theorem dX12_talk_64 : decode cX12_talk 64 = .ok (.goto 4, 3) := by decide +kernel
theorem dX12_talk_67 : decode cX12_talk 67 = .ok (.iconst 0, 1) := by decide +kernel
theorem dX12_talk_68 : decode cX12_talk 68 = .ok (.iconst 3, 1) := by decide +kernel
theorem dX12_talk_69 : decode cX12_talk 69 = .ok (.invokevirtual 133, 3) := by decide +kernel
theorem dX12_talk_72 : decode cX12_talk 72 = .ok (.ifCond .ne 5, 3) := by decide +kernel
theorem dX12_talk_75 : decode cX12_talk 75 = .ok (.iconst 0, 1) := by decide +kernel
theorem dX12_talk_76 : decode cX12_talk 76 = .ok (.ireturn, 1) := by decide +kernel
theorem dX12_talk_77 : decode cX12_talk 77 = .ok (.aload_n 0, 1) := by decide +kernel
theorem dX12_talk_78 : decode cX12_talk 78 = .ok (.iload_n 1, 1) := by decide +kernel
theorem dX12_talk_79 : decode cX12_talk 79 = .ok (.iload_n 3, 1) := by decide +kernel
theorem dX12_talk_80 : decode cX12_talk 80 = .ok (.invokevirtual 187, 3) := by decide +kernel
theorem dX12_talk_83 : decode cX12_talk 83 = .ok (.ifCond .ne 5, 3) := by decide +kernel
theorem dX12_talk_86 : decode cX12_talk 86 = .ok (.iconst (-1), 1) := by decide +kernel
theorem dX12_talk_87 : decode cX12_talk 87 = .ok (.ireturn, 1) := by decide +kernel
theorem dX12_talk_88 : decode cX12_talk 88 = .ok (.iconst 0, 1) := by decide +kernel
theorem dX12_talk_89 : decode cX12_talk 89 = .ok (.istore 5, 2) := by decide +kernel
theorem dX12_talk_91 : decode cX12_talk 91 = .ok (.iload 5, 2) := by decide +kernel
theorem dX12_talk_93 : decode cX12_talk 93 = .ok (.iload_n 3, 1) := by decide +kernel
theorem dX12_talk_94 : decode cX12_talk 94 = .ok (.if_icmp .ge 81, 3) := by decide +kernel
theorem dX12_talk_97 : decode cX12_talk 97 = .ok (.aload_n 0, 1) := by decide +kernel
theorem dX12_talk_98 : decode cX12_talk 98 = .ok (.getfield 95, 3) := by decide +kernel
theorem dX12_talk_101 : decode cX12_talk 101 = .ok (.iload 5, 2) := by decide +kernel
theorem dX12_talk_103 : decode cX12_talk 103 = .ok (.iconst 0, 1) := by decide +kernel
theorem dX12_talk_104 : decode cX12_talk 104 = .ok (.iastore, 1) := by decide +kernel
theorem dX12_talk_105 : decode cX12_talk 105 = .ok (.aload_n 0, 1) := by decide +kernel
theorem dX12_talk_106 : decode cX12_talk 106 = .ok (.iload_n 1, 1) := by decide +kernel
theorem dX12_talk_107 : decode cX12_talk 107 = .ok (.iload 5, 2) := by decide +kernel
theorem dX12_talk_109 : decode cX12_talk 109 = .ok (.iconst 0, 1) := by decide +kernel
theorem dX12_talk_110 : decode cX12_talk 110 = .ok (.invokevirtual 170, 3) := by decide +kernel
theorem dX12_talk_113 : decode cX12_talk 113 = .ok (.istore 6, 2) := by decide +kernel
theorem dX12_talk_115 : decode cX12_talk 115 = .ok (.aload_n 0, 1) := by decide +kernel
theorem dX12_talk_116 : decode cX12_talk 116 = .ok (.iload_n 1, 1) := by decide +kernel
theorem dX12_talk_117 : decode cX12_talk 117 = .ok (.iload 5, 2) := by decide +kernel
theorem dX12_talk_119 : decode cX12_talk 119 = .ok (.invokevirtual 207, 3) := by decide +kernel
theorem dX12_talk_122 : decode cX12_talk 122 = .ok (.istore 7, 2) := by decide +kernel
theorem dX12_talk_124 : decode cX12_talk 124 = .ok (.iconst 0, 1) := by decide +kernel
theorem dX12_talk_125 : decode cX12_talk 125 = .ok (.istore 8, 2) := by decide +kernel
theorem dX12_talk_127 : decode cX12_talk 127 = .ok (.iload 8, 2) := by decide +kernel
theorem dX12_talk_129 : decode cX12_talk 129 = .ok (.iconst 2, 1) := by decide +kernel
theorem dX12_talk_130 : decode cX12_talk 130 = .ok (.if_icmp .ge 39, 3) := by decide +kernel
theorem dX12_talk_133 : decode cX12_talk 133 = .ok (.aload_n 0, 1) := by decide +kernel
theorem dX12_talk_134 : decode cX12_talk 134 = .ok (.getfield 98, 3) := by decide +kernel
theorem dX12_talk_137 : decode cX12_talk 137 = .ok (.iconst 2, 1) := by decide +kernel
theorem dX12_talk_138 : decode cX12_talk 138 = .ok (.iload 5, 2) := by decide +kernel
theorem dX12_talk_140 : decode cX12_talk 140 = .ok (.imul, 1) := by decide +kernel
theorem dX12_talk_141 : decode cX12_talk 141 = .ok (.iload 8, 2) := by decide +kernel
theorem dX12_talk_143 : decode cX12_talk 143 = .ok (.iadd, 1) := by decide +kernel
theorem dX12_talk_144 : decode cX12_talk 144 = .ok (.iload 6, 2) := by decide +kernel
theorem dX12_talk_146 : decode cX12_talk 146 = .ok (.ifCond .eq 15, 3) := by decide +kernel
theorem dX12_talk_149 : decode cX12_talk 149 = .ok (.aload_n 0, 1) := by decide +kernel
theorem dX12_talk_150 : decode cX12_talk 150 = .ok (.iload_n 2, 1) := by decide +kernel
theorem dX12_talk_151 : decode cX12_talk 151 = .ok (.iload 7, 2) := by decide +kernel
theorem dX12_talk_153 : decode cX12_talk 153 = .ok (.iload 8, 2) := by decide +kernel
theorem dX12_talk_155 : decode cX12_talk 155 = .ok (.invokevirtual 210, 3) := by decide +kernel
theorem dX12_talk_158 : decode cX12_talk 158 = .ok (.goto 4, 3) := by decide +kernel
theorem dX12_talk_161 : decode cX12_talk 161 = .ok (.iconst 0, 1) := by decide +kernel
theorem dX12_talk_162 : decode cX12_talk 162 = .ok (.iastore, 1) := by decide +kernel
theorem dX12_talk_163 : decode cX12_talk 163 = .ok (.iinc 8 1, 3) := by decide +kernel
theorem dX12_talk_166 : decode cX12_talk 166 = .ok (.goto (-39), 3) := by decide +kernel
theorem dX12_talk_169 : decode cX12_talk 169 = .ok (.iinc 5 1, 3) := by decide +kernel
theorem dX12_talk_172 : decode cX12_talk 172 = .ok (.goto (-81), 3) := by decide +kernel
theorem dX12_talk_175 : decode cX12_talk 175 = .ok (.iconst 0, 1) := by decide +kernel
theorem dX12_talk_176 : decode cX12_talk 176 = .ok (.istore 5, 2) := by decide +kernel
theorem dX12_talk_178 : decode cX12_talk 178 = .ok (.aload_n 0, 1) := by decide +kernel
theorem dX12_talk_179 : decode cX12_talk 179 = .ok (.iconst 0, 1) := by decide +kernel
theorem dX12_talk_180 : decode cX12_talk 180 = .ok (.putfield 281, 3) := by decide +kernel
theorem dX12_talk_183 : decode cX12_talk 183 = .ok (.iload 5, 2) := by decide +kernel
theorem dX12_talk_185 : decode cX12_talk 185 = .ok (.iload 4, 2) := by decide +kernel
theorem dX12_talk_187 : decode cX12_talk 187 = .ok (.if_icmp .ge 130, 3) := by decide +kernel
theorem dX12_talk_190 : decode cX12_talk 190 = .ok (.aload_n 0, 1) := by decide +kernel
theorem dX12_talk_191 : decode cX12_talk 191 = .ok (.getfield 281, 3) := by decide +kernel
theorem dX12_talk_194 : decode cX12_talk 194 = .ok (.ifCond .ne 123, 3) := by decide +kernel
theorem dX12_talk_197 : decode cX12_talk 197 = .ok (.aload_n 0, 1) := by decide +kernel
theorem dX12_talk_198 : decode cX12_talk 198 = .ok (.iload_n 1, 1) := by decide +kernel
theorem dX12_talk_199 : decode cX12_talk 199 = .ok (.iload_n 2, 1) := by decide +kernel
theorem dX12_talk_200 : decode cX12_talk 200 = .ok (.iload_n 3, 1) := by decide +kernel
theorem dX12_talk_201 : decode cX12_talk 201 = .ok (.iconst 0, 1) := by decide +kernel
theorem dX12_talk_202 : decode cX12_talk 202 = .ok (.invokevirtual 285, 3) := by decide +kernel
theorem dX12_talk_205 : decode cX12_talk 205 = .ok (.iconst 0, 1) := by decide +kernel
theorem dX12_talk_206 : decode cX12_talk 206 = .ok (.istore 6, 2) := by decide +kernel
theorem dX12_talk_208 : decode cX12_talk 208 = .ok (.iload 6, 2) := by decide +kernel
theorem dX12_talk_210 : decode cX12_talk 210 = .ok (.iload_n 3, 1) := by decide +kernel
theorem dX12_talk_211 : decode cX12_talk 211 = .ok (.if_icmp .ge 31, 3) := by decide +kernel
theorem dX12_talk_214 : decode cX12_talk 214 = .ok (.aload_n 0, 1) := by decide +kernel
theorem dX12_talk_215 : decode cX12_talk 215 = .ok (.getfield 101, 3) := by decide +kernel
theorem dX12_talk_218 : decode cX12_talk 218 = .ok (.iload 6, 2) := by decide +kernel
theorem dX12_talk_220 : decode cX12_talk 220 = .ok (.aload_n 0, 1) := by decide +kernel
theorem dX12_talk_221 : decode cX12_talk 221 = .ok (.getfield 58, 3) := by decide +kernel
theorem dX12_talk_224 : decode cX12_talk 224 = .ok (.iload 6, 2) := by decide +kernel
theorem dX12_talk_226 : decode cX12_talk 226 = .ok (.iaload, 1) := by decide +kernel
theorem dX12_talk_227 : decode cX12_talk 227 = .ok (.ifCond .ge 7, 3) := by decide +kernel
theorem dX12_talk_230 : decode cX12_talk 230 = .ok (.iconst 1, 1) := by decide +kernel
theorem dX12_talk_231 : decode cX12_talk 231 = .ok (.goto 4, 3) := by decide +kernel
theorem dX12_talk_234 : decode cX12_talk 234 = .ok (.iconst 0, 1) := by decide +kernel
theorem dX12_talk_235 : decode cX12_talk 235 = .ok (.iastore, 1) := by decide +kernel
theorem dX12_talk_236 : decode cX12_talk 236 = .ok (.iinc 6 1, 3) := by decide +kernel
theorem dX12_talk_239 : decode cX12_talk 239 = .ok (.goto (-31), 3) := by decide +kernel
theorem dX12_talk_242 : decode cX12_talk 242 = .ok (.aload_n 0, 1) := by decide +kernel
theorem dX12_talk_243 : decode cX12_talk 243 = .ok (.iload_n 1, 1) := by decide +kernel
theorem dX12_talk_244 : decode cX12_talk 244 = .ok (.iload_n 2, 1) := by decide +kernel
theorem dX12_talk_245 : decode cX12_talk 245 = .ok (.iload_n 3, 1) := by decide +kernel
theorem dX12_talk_246 : decode cX12_talk 246 = .ok (.iconst 1, 1) := by decide +kernel
theorem dX12_talk_247 : decode cX12_talk 247 = .ok (.invokevirtual 285, 3) := by decide +kernel
theorem dX12_talk_250 : decode cX12_talk 250 = .ok (.aload_n 0, 1) := by decide +kernel
theorem dX12_talk_251 : decode cX12_talk 251 = .ok (.iconst 1, 1) := by decide +kernel
theorem dX12_talk_252 : decode cX12_talk 252 = .ok (.putfield 281, 3) := by decide +kernel
theorem dX12_talk_255 : decode cX12_talk 255 = .ok (.iconst 0, 1) := by decide +kernel
theorem dX12_talk_256 : decode cX12_talk 256 = .ok (.istore 6, 2) := by decide +kernel
theorem dX12_talk_258 : decode cX12_talk 258 = .ok (.iload 6, 2) := by decide +kernel
theorem dX12_talk_260 : decode cX12_talk 260 = .ok (.iload_n 3, 1) := by decide +kernel
theorem dX12_talk_261 : decode cX12_talk 261 = .ok (.if_icmp .ge 50, 3) := by decide +kernel
theorem dX12_talk_264 : decode cX12_talk 264 = .ok (.aload_n 0, 1) := by decide +kernel
theorem dX12_talk_265 : decode cX12_talk 265 = .ok (.aload_n 0, 1) := by decide +kernel
theorem dX12_talk_266 : decode cX12_talk 266 = .ok (.getfield 281, 3) := by decide +kernel
theorem dX12_talk_269 : decode cX12_talk 269 = .ok (.ifCond .eq 32, 3) := by decide +kernel
theorem dX12_talk_272 : decode cX12_talk 272 = .ok (.aload_n 0, 1) := by decide +kernel
theorem dX12_talk_273 : decode cX12_talk 273 = .ok (.getfield 101, 3) := by decide +kernel
theorem dX12_talk_276 : decode cX12_talk 276 = .ok (.iload 6, 2) := by decide +kernel
theorem dX12_talk_278 : decode cX12_talk 278 = .ok (.iaload, 1) := by decide +kernel
theorem dX12_talk_279 : decode cX12_talk 279 = .ok (.aload_n 0, 1) := by decide +kernel
theorem dX12_talk_280 : decode cX12_talk 280 = .ok (.getfield 58, 3) := by decide +kernel
theorem dX12_talk_283 : decode cX12_talk 283 = .ok (.iload 6, 2) := by decide +kernel
theorem dX12_talk_285 : decode cX12_talk 285 = .ok (.iaload, 1) := by decide +kernel
theorem dX12_talk_286 : decode cX12_talk 286 = .ok (.ifCond .ge 7, 3) := by decide +kernel
theorem dX12_talk_289 : decode cX12_talk 289 = .ok (.iconst 1, 1) := by decide +kernel
theorem dX12_talk_290 : decode cX12_talk 290 = .ok (.goto 4, 3) := by decide +kernel
theorem dX12_talk_293 : decode cX12_talk 293 = .ok (.iconst 0, 1) := by decide +kernel
theorem dX12_talk_294 : decode cX12_talk 294 = .ok (.if_icmp .ne 7, 3) := by decide +kernel
theorem dX12_talk_297 : decode cX12_talk 297 = .ok (.iconst 1, 1) := by decide +kernel
theorem dX12_talk_298 : decode cX12_talk 298 = .ok (.goto 4, 3) := by decide +kernel
theorem dX12_talk_301 : decode cX12_talk 301 = .ok (.iconst 0, 1) := by decide +kernel
theorem dX12_talk_302 : decode cX12_talk 302 = .ok (.putfield 281, 3) := by decide +kernel
theorem dX12_talk_305 : decode cX12_talk 305 = .ok (.iinc 6 1, 3) := by decide +kernel
theorem dX12_talk_308 : decode cX12_talk 308 = .ok (.goto (-50), 3) := by decide +kernel
theorem dX12_talk_311 : decode cX12_talk 311 = .ok (.iinc 5 1, 3) := by decide +kernel
theorem dX12_talk_314 : decode cX12_talk 314 = .ok (.goto (-131), 3) := by decide +kernel
theorem dX12_talk_317 : decode cX12_talk 317 = .ok (.aload_n 0, 1) := by decide +kernel
theorem dX12_talk_318 : decode cX12_talk 318 = .ok (.iload_n 3, 1) := by decide +kernel
theorem dX12_talk_319 : decode cX12_talk 319 = .ok (.putfield 268, 3) := by decide +kernel
theorem dX12_talk_322 : decode cX12_talk 322 = .ok (.aload_n 0, 1) := by decide +kernel
theorem dX12_talk_323 : decode cX12_talk 323 = .ok (.iconst 1, 1) := by decide +kernel
theorem dX12_talk_324 : decode cX12_talk 324 = .ok (.putfield 222, 3) := by decide +kernel
theorem dX12_talk_327 : decode cX12_talk 327 = .ok (.aload_n 0, 1) := by decide +kernel
theorem dX12_talk_328 : decode cX12_talk 328 = .ok (.getfield 49, 3) := by decide +kernel
theorem dX12_talk_331 : decode cX12_talk 331 = .ok (.iconst 0, 1) := by decide +kernel
theorem dX12_talk_332 : decode cX12_talk 332 = .ok (.iconst 0, 1) := by decide +kernel
theorem dX12_talk_333 : decode cX12_talk 333 = .ok (.iastore, 1) := by decide +kernel
theorem dX12_talk_334 : decode cX12_talk 334 = .ok (.aload_n 0, 1) := by decide +kernel
theorem dX12_talk_335 : decode cX12_talk 335 = .ok (.getfield 52, 3) := by decide +kernel
theorem dX12_talk_338 : decode cX12_talk 338 = .ok (.iconst 0, 1) := by decide +kernel
theorem dX12_talk_339 : decode cX12_talk 339 = .ok (.iconst 0, 1) := by decide +kernel
theorem dX12_talk_340 : decode cX12_talk 340 = .ok (.iastore, 1) := by decide +kernel
theorem dX12_talk_341 : decode cX12_talk 341 = .ok (.aload_n 0, 1) := by decide +kernel
theorem dX12_talk_342 : decode cX12_talk 342 = .ok (.getfield 55, 3) := by decide +kernel
theorem dX12_talk_345 : decode cX12_talk 345 = .ok (.iconst 0, 1) := by decide +kernel
theorem dX12_talk_346 : decode cX12_talk 346 = .ok (.iload_n 3, 1) := by decide +kernel
theorem dX12_talk_347 : decode cX12_talk 347 = .ok (.iastore, 1) := by decide +kernel
theorem dX12_talk_348 : decode cX12_talk 348 = .ok (.iconst 0, 1) := by decide +kernel
theorem dX12_talk_349 : decode cX12_talk 349 = .ok (.istore 6, 2) := by decide +kernel
theorem dX12_talk_351 : decode cX12_talk 351 = .ok (.iload 6, 2) := by decide +kernel
theorem dX12_talk_353 : decode cX12_talk 353 = .ok (.iload_n 3, 1) := by decide +kernel
theorem dX12_talk_354 : decode cX12_talk 354 = .ok (.if_icmp .ge 31, 3) := by decide +kernel
theorem dX12_talk_357 : decode cX12_talk 357 = .ok (.aload_n 0, 1) := by decide +kernel
theorem dX12_talk_358 : decode cX12_talk 358 = .ok (.getfield 46, 3) := by decide +kernel
theorem dX12_talk_361 : decode cX12_talk 361 = .ok (.iload 6, 2) := by decide +kernel
theorem dX12_talk_363 : decode cX12_talk 363 = .ok (.aload_n 0, 1) := by decide +kernel
theorem dX12_talk_364 : decode cX12_talk 364 = .ok (.getfield 58, 3) := by decide +kernel
theorem dX12_talk_367 : decode cX12_talk 367 = .ok (.iload 6, 2) := by decide +kernel
theorem dX12_talk_369 : decode cX12_talk 369 = .ok (.iaload, 1) := by decide +kernel
theorem dX12_talk_370 : decode cX12_talk 370 = .ok (.ifCond .ge 7, 3) := by decide +kernel
theorem dX12_talk_373 : decode cX12_talk 373 = .ok (.iconst 1, 1) := by decide +kernel
theorem dX12_talk_374 : decode cX12_talk 374 = .ok (.goto 4, 3) := by decide +kernel
theorem dX12_talk_377 : decode cX12_talk 377 = .ok (.iconst 0, 1) := by decide +kernel
theorem dX12_talk_378 : decode cX12_talk 378 = .ok (.iastore, 1) := by decide +kernel
theorem dX12_talk_379 : decode cX12_talk 379 = .ok (.iinc 6 1, 3) := by decide +kernel
theorem dX12_talk_382 : decode cX12_talk 382 = .ok (.goto (-31), 3) := by decide +kernel
theorem dX12_talk_385 : decode cX12_talk 385 = .ok (.iload 5, 2) := by decide +kernel
theorem dX12_talk_387 : decode cX12_talk 387 = .ok (.ireturn, 1) := by decide +kernel
theorem dX12_agreed_0 : decode cX12_agreed 0 = .ok (.aload_n 0, 1) := by decide +kernel
theorem dX12_agreed_1 : decode cX12_agreed 1 = .ok (.iconst 0, 1) := by decide +kernel
theorem dX12_agreed_2 : decode cX12_agreed 2 = .ok (.putfield 129, 3) := by decide +kernel
theorem dX12_agreed_5 : decode cX12_agreed 5 = .ok (.aload_n 0, 1) := by decide +kernel
theorem dX12_agreed_6 : decode cX12_agreed 6 = .ok (.getfield 281, 3) := by decide +kernel
theorem dX12_agreed_9 : decode cX12_agreed 9 = .ok (.ireturn, 1) := by decide +kernel
theorem dX12_seems_0 : decode cX12_seems 0 = .ok (.aload_n 0, 1) := by decide +kernel
theorem dX12_seems_1 : decode cX12_seems 1 = .ok (.iconst 0, 1) := by decide +kernel
theorem dX12_seems_2 : decode cX12_seems 2 = .ok (.putfield 129, 3) := by decide +kernel
theorem dX12_seems_5 : decode cX12_seems 5 = .ok (.aload_n 0, 1) := by decide +kernel
theorem dX12_seems_6 : decode cX12_seems 6 = .ok (.iload_n 1, 1) := by decide +kernel
theorem dX12_seems_7 : decode cX12_seems 7 = .ok (.ifCond .lt 15, 3) := by decide +kernel
theorem dX12_seems_10 : decode cX12_seems 10 = .ok (.iload_n 1, 1) := by decide +kernel
theorem dX12_seems_11 : decode cX12_seems 11 = .ok (.aload_n 0, 1) := by decide +kernel
theorem dX12_seems_12 : decode cX12_seems 12 = .ok (.getfield 268, 3) := by decide +kernel
theorem dX12_seems_15 : decode cX12_seems 15 = .ok (.if_icmp .ge 7, 3) := by decide +kernel
theorem dX12_seems_18 : decode cX12_seems 18 = .ok (.iconst 1, 1) := by decide +kernel
theorem dX12_seems_19 : decode cX12_seems 19 = .ok (.goto 4, 3) := by decide +kernel
theorem dX12_seems_22 : decode cX12_seems 22 = .ok (.iconst 0, 1) := by decide +kernel
theorem dX12_seems_23 : decode cX12_seems 23 = .ok (.iconst 1, 1) := by decide +kernel
theorem dX12_seems_24 : decode cX12_seems 24 = .ok (.invokevirtual 133, 3) := by decide +kernel
theorem dX12_seems_27 : decode cX12_seems 27 = .ok (.ifCond .eq 12, 3) := by decide +kernel
theorem dX12_seems_30 : decode cX12_seems 30 = .ok (.aload_n 0, 1) := by decide +kernel
theorem dX12_seems_31 : decode cX12_seems 31 = .ok (.getfield 58, 3) := by decide +kernel
theorem dX12_seems_34 : decode cX12_seems 34 = .ok (.iload_n 1, 1) := by decide +kernel
theorem dX12_seems_35 : decode cX12_seems 35 = .ok (.iaload, 1) := by decide +kernel
theorem dX12_seems_36 : decode cX12_seems 36 = .ok (.goto 4, 3) := by decide +kernel
theorem dX12_seems_39 : decode cX12_seems 39 = .ok (.iconst 0, 1) := by decide +kernel
theorem dX12_seems_40 : decode cX12_seems 40 = .ok (.ireturn, 1) := by decide +kernel
theorem dX12_way_0 : decode cX12_way 0 = .ok (.aload_n 0, 1) := by decide +kernel
theorem dX12_way_1 : decode cX12_way 1 = .ok (.iconst 0, 1) := by decide +kernel
theorem dX12_way_2 : decode cX12_way 2 = .ok (.putfield 129, 3) := by decide +kernel
theorem dX12_way_5 : decode cX12_way 5 = .ok (.aload_n 0, 1) := by decide +kernel
theorem dX12_way_6 : decode cX12_way 6 = .ok (.iload_n 1, 1) := by decide +kernel
theorem dX12_way_7 : decode cX12_way 7 = .ok (.ifCond .lt 31, 3) := by decide +kernel
theorem dX12_way_10 : decode cX12_way 10 = .ok (.iload_n 1, 1) := by decide +kernel
theorem dX12_way_11 : decode cX12_way 11 = .ok (.aload_n 0, 1) := by decide +kernel
theorem dX12_way_12 : decode cX12_way 12 = .ok (.getfield 222, 3) := by decide +kernel
theorem dX12_way_15 : decode cX12_way 15 = .ok (.if_icmp .ge 23, 3) := by decide +kernel
theorem dX12_way_18 : decode cX12_way 18 = .ok (.iload_n 2, 1) := by decide +kernel
theorem dX12_way_19 : decode cX12_way 19 = .ok (.bipush (-3), 2) := by decide +kernel
theorem dX12_way_21 : decode cX12_way 21 = .ok (.if_icmp .lt 17, 3) := by decide +kernel
theorem dX12_way_24 : decode cX12_way 24 = .ok (.iload_n 2, 1) := by decide +kernel
theorem dX12_way_25 : decode cX12_way 25 = .ok (.aload_n 0, 1) := by decide +kernel
theorem dX12_way_26 : decode cX12_way 26 = .ok (.getfield 55, 3) := by decide +kernel
theorem dX12_way_29 : decode cX12_way 29 = .ok (.iload_n 1, 1) := by decide +kernel
theorem dX12_way_30 : decode cX12_way 30 = .ok (.iaload, 1) := by decide +kernel
theorem dX12_way_31 : decode cX12_way 31 = .ok (.if_icmp .ge 7, 3) := by decide +kernel
theorem dX12_way_34 : decode cX12_way 34 = .ok (.iconst 1, 1) := by decide +kernel
theorem dX12_way_35 : decode cX12_way 35 = .ok (.goto 4, 3) := by decide +kernel
theorem dX12_way_38 : decode cX12_way 38 = .ok (.iconst 0, 1) := by decide +kernel
theorem dX12_way_39 : decode cX12_way 39 = .ok (.iconst 1, 1) := by decide +kernel
theorem dX12_way_40 : decode cX12_way 40 = .ok (.invokevirtual 133, 3) := by decide +kernel
theorem dX12_way_43 : decode cX12_way 43 = .ok (.ifCond .ne 5, 3) := by decide +kernel
theorem dX12_way_46 : decode cX12_way 46 = .ok (.iconst 0, 1) := by decide +kernel
theorem dX12_way_47 : decode cX12_way 47 = .ok (.ireturn, 1) := by decide +kernel
theorem dX12_way_48 : decode cX12_way 48 = .ok (.iload_n 2, 1) := by decide +kernel
theorem dX12_way_49 : decode cX12_way 49 = .ok (.iconst (-1), 1) := by decide +kernel
theorem dX12_way_50 : decode cX12_way 50 = .ok (.if_icmp .ne 12, 3) := by decide +kernel
theorem dX12_way_53 : decode cX12_way 53 = .ok (.aload_n 0, 1) := by decide +kernel
theorem dX12_way_54 : decode cX12_way 54 = .ok (.getfield 49, 3) := by decide +kernel
theorem dX12_way_57 : decode cX12_way 57 = .ok (.iload_n 1, 1) := by decide +kernel
theorem dX12_way_58 : decode cX12_way 58 = .ok (.iaload, 1) := by decide +kernel
theorem dX12_way_59 : decode cX12_way 59 = .ok (.goto 45, 3) := by decide +kernel
theorem dX12_way_62 : decode cX12_way 62 = .ok (.iload_n 2, 1) := by decide +kernel
theorem dX12_way_63 : decode cX12_way 63 = .ok (.bipush (-2), 2) := by decide +kernel
theorem dX12_way_65 : decode cX12_way 65 = .ok (.if_icmp .ne 12, 3) := by decide +kernel
theorem dX12_way_68 : decode cX12_way 68 = .ok (.aload_n 0, 1) := by decide +kernel
theorem dX12_way_69 : decode cX12_way 69 = .ok (.getfield 52, 3) := by decide +kernel
theorem dX12_way_72 : decode cX12_way 72 = .ok (.iload_n 1, 1) := by decide +kernel
theorem dX12_way_73 : decode cX12_way 73 = .ok (.iaload, 1) := by decide +kernel
theorem dX12_way_74 : decode cX12_way 74 = .ok (.goto 30, 3) := by decide +kernel
theorem dX12_way_77 : decode cX12_way 77 = .ok (.iload_n 2, 1) := by decide +kernel
theorem dX12_way_78 : decode cX12_way 78 = .ok (.bipush (-3), 2) := by decide +kernel
theorem dX12_way_80 : decode cX12_way 80 = .ok (.if_icmp .ne 12, 3) := by decide +kernel
theorem dX12_way_83 : decode cX12_way 83 = .ok (.aload_n 0, 1) := by decide +kernel
theorem dX12_way_84 : decode cX12_way 84 = .ok (.getfield 55, 3) := by decide +kernel
theorem dX12_way_87 : decode cX12_way 87 = .ok (.iload_n 1, 1) := by decide +kernel
theorem dX12_way_88 : decode cX12_way 88 = .ok (.iaload, 1) := by decide +kernel
theorem dX12_way_89 : decode cX12_way 89 = .ok (.goto 15, 3) := by decide +kernel
theorem dX12_way_92 : decode cX12_way 92 = .ok (.aload_n 0, 1) := by decide +kernel
theorem dX12_way_93 : decode cX12_way 93 = .ok (.getfield 46, 3) := by decide +kernel
theorem dX12_way_96 : decode cX12_way 96 = .ok (.sipush 200, 3) := by decide +kernel
theorem dX12_way_99 : decode cX12_way 99 = .ok (.iload_n 1, 1) := by decide +kernel
theorem dX12_way_100 : decode cX12_way 100 = .ok (.imul, 1) := by decide +kernel
theorem dX12_way_101 : decode cX12_way 101 = .ok (.iload_n 2, 1) := by decide +kernel
theorem dX12_way_102 : decode cX12_way 102 = .ok (.iadd, 1) := by decide +kernel
theorem dX12_way_103 : decode cX12_way 103 = .ok (.iaload, 1) := by decide +kernel
theorem dX12_way_104 : decode cX12_way 104 = .ok (.ireturn, 1) := by decide +kernel
theorem dX12_take_0 : decode cX12_take 0 = .ok (.aload_n 0, 1) := by decide +kernel
theorem dX12_take_1 : decode cX12_take 1 = .ok (.iconst 0, 1) := by decide +kernel
theorem dX12_take_2 : decode cX12_take 2 = .ok (.putfield 129, 3) := by decide +kernel
theorem dX12_take_5 : decode cX12_take 5 = .ok (.aload_n 0, 1) := by decide +kernel
theorem dX12_take_6 : decode cX12_take 6 = .ok (.iload_n 2, 1) := by decide +kernel
theorem dX12_take_7 : decode cX12_take 7 = .ok (.iconst 1, 1) := by decide +kernel
theorem dX12_take_8 : decode cX12_take 8 = .ok (.invokevirtual 137, 3) := by decide +kernel
theorem dX12_take_11 : decode cX12_take 11 = .ok (.ifCond .eq 28, 3) := by decide +kernel
theorem dX12_take_14 : decode cX12_take 14 = .ok (.aload_n 0, 1) := by decide +kernel
theorem dX12_take_15 : decode cX12_take 15 = .ok (.iload_n 1, 1) := by decide +kernel
theorem dX12_take_16 : decode cX12_take 16 = .ok (.ifCond .lt 15, 3) := by decide +kernel
theorem dX12_take_19 : decode cX12_take 19 = .ok (.iload_n 1, 1) := by decide +kernel
theorem dX12_take_20 : decode cX12_take 20 = .ok (.aload_n 0, 1) := by decide +kernel
theorem dX12_take_21 : decode cX12_take 21 = .ok (.getfield 222, 3) := by decide +kernel
theorem dX12_take_24 : decode cX12_take 24 = .ok (.if_icmp .ge 7, 3) := by decide +kernel
theorem dX12_take_27 : decode cX12_take 27 = .ok (.iconst 1, 1) := by decide +kernel
theorem dX12_take_28 : decode cX12_take 28 = .ok (.goto 4, 3) := by decide +kernel
theorem dX12_take_31 : decode cX12_take 31 = .ok (.iconst 0, 1) := by decide +kernel
theorem dX12_take_32 : decode cX12_take 32 = .ok (.iconst 2, 1) := by decide +kernel
theorem dX12_take_33 : decode cX12_take 33 = .ok (.invokevirtual 133, 3) := by decide +kernel
theorem dX12_take_36 : decode cX12_take 36 = .ok (.ifCond .ne 5, 3) := by decide +kernel
theorem dX12_take_39 : decode cX12_take 39 = .ok (.iconst 0, 1) := by decide +kernel
theorem dX12_take_40 : decode cX12_take 40 = .ok (.ireturn, 1) := by decide +kernel
theorem dX12_take_41 : decode cX12_take 41 = .ok (.aload_n 0, 1) := by decide +kernel
theorem dX12_take_42 : decode cX12_take 42 = .ok (.getfield 7, 3) := by decide +kernel
theorem dX12_take_45 : decode cX12_take 45 = .ok (.iload_n 2, 1) := by decide +kernel
theorem dX12_take_46 : decode cX12_take 46 = .ok (.aload_n 0, 1) := by decide +kernel
theorem dX12_take_47 : decode cX12_take 47 = .ok (.getfield 55, 3) := by decide +kernel
theorem dX12_take_50 : decode cX12_take 50 = .ok (.iload_n 1, 1) := by decide +kernel
theorem dX12_take_51 : decode cX12_take 51 = .ok (.iaload, 1) := by decide +kernel
theorem dX12_take_52 : decode cX12_take 52 = .ok (.iastore, 1) := by decide +kernel
theorem dX12_take_53 : decode cX12_take 53 = .ok (.iconst 0, 1) := by decide +kernel
theorem dX12_take_54 : decode cX12_take 54 = .ok (.istore_n 3, 1) := by decide +kernel
theorem dX12_take_55 : decode cX12_take 55 = .ok (.iload_n 3, 1) := by decide +kernel
theorem dX12_take_56 : decode cX12_take 56 = .ok (.sipush 600, 3) := by decide +kernel
theorem dX12_take_59 : decode cX12_take 59 = .ok (.if_icmp .ge 47, 3) := by decide +kernel
theorem dX12_take_62 : decode cX12_take 62 = .ok (.aload_n 0, 1) := by decide +kernel
theorem dX12_take_63 : decode cX12_take 63 = .ok (.getfield 13, 3) := by decide +kernel
theorem dX12_take_66 : decode cX12_take 66 = .ok (.sipush 600, 3) := by decide +kernel
theorem dX12_take_69 : decode cX12_take 69 = .ok (.iload_n 2, 1) := by decide +kernel
theorem dX12_take_70 : decode cX12_take 70 = .ok (.imul, 1) := by decide +kernel
theorem dX12_take_71 : decode cX12_take 71 = .ok (.iload_n 3, 1) := by decide +kernel
theorem dX12_take_72 : decode cX12_take 72 = .ok (.iadd, 1) := by decide +kernel
theorem dX12_take_73 : decode cX12_take 73 = .ok (.iload_n 3, 1) := by decide +kernel
theorem dX12_take_74 : decode cX12_take 74 = .ok (.aload_n 0, 1) := by decide +kernel
theorem dX12_take_75 : decode cX12_take 75 = .ok (.getfield 55, 3) := by decide +kernel
theorem dX12_take_78 : decode cX12_take 78 = .ok (.iload_n 1, 1) := by decide +kernel
theorem dX12_take_79 : decode cX12_take 79 = .ok (.iaload, 1) := by decide +kernel
theorem dX12_take_80 : decode cX12_take 80 = .ok (.if_icmp .ge 18, 3) := by decide +kernel
theorem dX12_take_83 : decode cX12_take 83 = .ok (.aload_n 0, 1) := by decide +kernel
theorem dX12_take_84 : decode cX12_take 84 = .ok (.getfield 46, 3) := by decide +kernel
theorem dX12_take_87 : decode cX12_take 87 = .ok (.sipush 200, 3) := by decide +kernel
theorem dX12_take_90 : decode cX12_take 90 = .ok (.iload_n 1, 1) := by decide +kernel
theorem dX12_take_91 : decode cX12_take 91 = .ok (.imul, 1) := by decide +kernel
theorem dX12_take_92 : decode cX12_take 92 = .ok (.iload_n 3, 1) := by decide +kernel
theorem dX12_take_93 : decode cX12_take 93 = .ok (.iadd, 1) := by decide +kernel
theorem dX12_take_94 : decode cX12_take 94 = .ok (.iaload, 1) := by decide +kernel
theorem dX12_take_95 : decode cX12_take 95 = .ok (.goto 4, 3) := by decide +kernel
theorem dX12_take_98 : decode cX12_take 98 = .ok (.iconst 0, 1) := by decide +kernel
theorem dX12_take_99 : decode cX12_take 99 = .ok (.iastore, 1) := by decide +kernel
theorem dX12_take_100 : decode cX12_take 100 = .ok (.iinc 3 1, 3) := by decide +kernel
theorem dX12_take_103 : decode cX12_take 103 = .ok (.goto (-48), 3) := by decide +kernel
theorem dX12_take_106 : decode cX12_take 106 = .ok (.aload_n 0, 1) := by decide +kernel
theorem dX12_take_107 : decode cX12_take 107 = .ok (.getfield 55, 3) := by decide +kernel
theorem dX12_take_110 : decode cX12_take 110 = .ok (.iload_n 1, 1) := by decide +kernel
theorem dX12_take_111 : decode cX12_take 111 = .ok (.iaload, 1) := by decide +kernel
theorem dX12_take_112 : decode cX12_take 112 = .ok (.ireturn, 1) := by decide +kernel
theorem dX12_weight_0 : decode cX12_weight 0 = .ok (.iconst 0, 1) := by decide +kernel
theorem dX12_weight_1 : decode cX12_weight 1 = .ok (.istore 4, 2) := by decide +kernel
theorem dX12_weight_3 : decode cX12_weight 3 = .ok (.iconst 0, 1) := by decide +kernel
theorem dX12_weight_4 : decode cX12_weight 4 = .ok (.istore 5, 2) := by decide +kernel
theorem dX12_weight_6 : decode cX12_weight 6 = .ok (.iload 5, 2) := by decide +kernel
theorem dX12_weight_8 : decode cX12_weight 8 = .ok (.aload_n 0, 1) := by decide +kernel
theorem dX12_weight_9 : decode cX12_weight 9 = .ok (.getfield 28, 3) := by decide +kernel
theorem dX12_weight_12 : decode cX12_weight 12 = .ok (.iload_n 1, 1) := by decide +kernel
theorem dX12_weight_13 : decode cX12_weight 13 = .ok (.iaload, 1) := by decide +kernel
theorem dX12_weight_14 : decode cX12_weight 14 = .ok (.if_icmp .ge 23, 3) := by decide +kernel
theorem dX12_weight_17 : decode cX12_weight 17 = .ok (.iload 4, 2) := by decide +kernel
theorem dX12_weight_19 : decode cX12_weight 19 = .ok (.aload_n 0, 1) := by decide +kernel
theorem dX12_weight_20 : decode cX12_weight 20 = .ok (.iload_n 1, 1) := by decide +kernel
theorem dX12_weight_21 : decode cX12_weight 21 = .ok (.iload_n 2, 1) := by decide +kernel
theorem dX12_weight_22 : decode cX12_weight 22 = .ok (.iload_n 3, 1) := by decide +kernel
theorem dX12_weight_23 : decode cX12_weight 23 = .ok (.iload 5, 2) := by decide +kernel
theorem dX12_weight_25 : decode cX12_weight 25 = .ok (.invokevirtual 193, 3) := by decide +kernel
theorem dX12_weight_28 : decode cX12_weight 28 = .ok (.iadd, 1) := by decide +kernel
theorem dX12_weight_29 : decode cX12_weight 29 = .ok (.istore 4, 2) := by decide +kernel
theorem dX12_weight_31 : decode cX12_weight 31 = .ok (.iinc 5 1, 3) := by decide +kernel
theorem dX12_weight_34 : decode cX12_weight 34 = .ok (.goto (-28), 3) := by decide +kernel
theorem dX12_weight_37 : decode cX12_weight 37 = .ok (.iload 4, 2) := by decide +kernel
theorem dX12_weight_39 : decode cX12_weight 39 = .ok (.ireturn, 1) := by decide +kernel
theorem dX12_isOpen_0 : decode cX12_isOpen 0 = .ok (.aload_n 0, 1) := by decide +kernel
theorem dX12_isOpen_1 : decode cX12_isOpen 1 = .ok (.iload_n 1, 1) := by decide +kernel
theorem dX12_isOpen_2 : decode cX12_isOpen 2 = .ok (.invokevirtual 152, 3) := by decide +kernel
theorem dX12_isOpen_5 : decode cX12_isOpen 5 = .ok (.ifCond .eq 30, 3) := by decide +kernel
theorem dX12_isOpen_8 : decode cX12_isOpen 8 = .ok (.aload_n 0, 1) := by decide +kernel
theorem dX12_isOpen_9 : decode cX12_isOpen 9 = .ok (.aload_n 0, 1) := by decide +kernel
theorem dX12_isOpen_10 : decode cX12_isOpen 10 = .ok (.getfield 22, 3) := by decide +kernel
theorem dX12_isOpen_13 : decode cX12_isOpen 13 = .ok (.iload_n 1, 1) := by decide +kernel
theorem dX12_isOpen_14 : decode cX12_isOpen 14 = .ok (.iaload, 1) := by decide +kernel
theorem dX12_isOpen_15 : decode cX12_isOpen 15 = .ok (.iconst 1, 1) := by decide +kernel
theorem dX12_isOpen_16 : decode cX12_isOpen 16 = .ok (.if_icmp .gt 7, 3) := by decide +kernel
theorem dX12_isOpen_19 : decode cX12_isOpen 19 = .ok (.iconst 1, 1) := by decide +kernel
theorem dX12_isOpen_20 : decode cX12_isOpen 20 = .ok (.goto 4, 3) := by decide +kernel
theorem dX12_isOpen_23 : decode cX12_isOpen 23 = .ok (.iconst 0, 1) := by decide +kernel
theorem dX12_isOpen_24 : decode cX12_isOpen 24 = .ok (.iconst 2, 1) := by decide +kernel
theorem dX12_isOpen_25 : decode cX12_isOpen 25 = .ok (.invokevirtual 133, 3) := by decide +kernel
theorem dX12_isOpen_28 : decode cX12_isOpen 28 = .ok (.ifCond .eq 7, 3) := by decide +kernel
theorem dX12_isOpen_31 : decode cX12_isOpen 31 = .ok (.iconst 1, 1) := by decide +kernel
theorem dX12_isOpen_32 : decode cX12_isOpen 32 = .ok (.goto 4, 3) := by decide +kernel
theorem dX12_isOpen_35 : decode cX12_isOpen 35 = .ok (.iconst 0, 1) := by decide +kernel
theorem dX12_isOpen_36 : decode cX12_isOpen 36 = .ok (.ireturn, 1) := by decide +kernel
theorem dX12_isBad_0 : decode cX12_isBad 0 = .ok (.iconst 1, 1) := by decide +kernel
theorem dX12_isBad_1 : decode cX12_isBad 1 = .ok (.aload_n 0, 1) := by decide +kernel
theorem dX12_isBad_2 : decode cX12_isBad 2 = .ok (.getfield 25, 3) := by decide +kernel
theorem dX12_isBad_5 : decode cX12_isBad 5 = .ok (.iload_n 1, 1) := by decide +kernel
theorem dX12_isBad_6 : decode cX12_isBad 6 = .ok (.iaload, 1) := by decide +kernel
theorem dX12_isBad_7 : decode cX12_isBad 7 = .ok (.ishl, 1) := by decide +kernel
theorem dX12_isBad_8 : decode cX12_isBad 8 = .ok (.istore_n 2, 1) := by decide +kernel
theorem dX12_isBad_9 : decode cX12_isBad 9 = .ok (.iconst 0, 1) := by decide +kernel
theorem dX12_isBad_10 : decode cX12_isBad 10 = .ok (.istore_n 3, 1) := by decide +kernel
theorem dX12_isBad_11 : decode cX12_isBad 11 = .ok (.iload_n 3, 1) := by decide +kernel
theorem dX12_isBad_12 : decode cX12_isBad 12 = .ok (.iload_n 2, 1) := by decide +kernel
theorem dX12_isBad_13 : decode cX12_isBad 13 = .ok (.if_icmp .ge 16, 3) := by decide +kernel
theorem dX12_isBad_16 : decode cX12_isBad 16 = .ok (.aload_n 0, 1) := by decide +kernel
theorem dX12_isBad_17 : decode cX12_isBad 17 = .ok (.getfield 104, 3) := by decide +kernel
theorem dX12_isBad_20 : decode cX12_isBad 20 = .ok (.iload_n 3, 1) := by decide +kernel
theorem dX12_isBad_21 : decode cX12_isBad 21 = .ok (.iconst 1, 1) := by decide +kernel
theorem dX12_isBad_22 : decode cX12_isBad 22 = .ok (.iastore, 1) := by decide +kernel
theorem dX12_isBad_23 : decode cX12_isBad 23 = .ok (.iinc 3 1, 3) := by decide +kernel
theorem dX12_isBad_26 : decode cX12_isBad 26 = .ok (.goto (-15), 3) := by decide +kernel
theorem dX12_isBad_29 : decode cX12_isBad 29 = .ok (.iconst 0, 1) := by decide +kernel
theorem dX12_isBad_30 : decode cX12_isBad 30 = .ok (.istore_n 3, 1) := by decide +kernel
theorem dX12_isBad_31 : decode cX12_isBad 31 = .ok (.iload_n 3, 1) := by decide +kernel
theorem dX12_isBad_32 : decode cX12_isBad 32 = .ok (.iload_n 2, 1) := by decide +kernel
theorem dX12_isBad_33 : decode cX12_isBad 33 = .ok (.if_icmp .ge 126, 3) := by decide +kernel
theorem dX12_isBad_36 : decode cX12_isBad 36 = .ok (.iconst 0, 1) := by decide +kernel
theorem dX12_isBad_37 : decode cX12_isBad 37 = .ok (.istore 4, 2) := by decide +kernel
theorem dX12_isBad_39 : decode cX12_isBad 39 = .ok (.iload 4, 2) := by decide +kernel
theorem dX12_isBad_41 : decode cX12_isBad 41 = .ok (.iload_n 2, 1) := by decide +kernel
theorem dX12_isBad_42 : decode cX12_isBad 42 = .ok (.if_icmp .ge 111, 3) := by decide +kernel
theorem dX12_isBad_45 : decode cX12_isBad 45 = .ok (.iconst 0, 1) := by decide +kernel
theorem dX12_isBad_46 : decode cX12_isBad 46 = .ok (.istore 5, 2) := by decide +kernel
theorem dX12_isBad_48 : decode cX12_isBad 48 = .ok (.iconst 0, 1) := by decide +kernel
theorem dX12_isBad_49 : decode cX12_isBad 49 = .ok (.istore 6, 2) := by decide +kernel
theorem dX12_isBad_51 : decode cX12_isBad 51 = .ok (.iload 6, 2) := by decide +kernel
theorem dX12_isBad_53 : decode cX12_isBad 53 = .ok (.iconst 2, 1) := by decide +kernel
theorem dX12_isBad_54 : decode cX12_isBad 54 = .ok (.if_icmp .ge 65, 3) := by decide +kernel
theorem dX12_isBad_57 : decode cX12_isBad 57 = .ok (.aload_n 0, 1) := by decide +kernel
theorem dX12_isBad_58 : decode cX12_isBad 58 = .ok (.iload_n 1, 1) := by decide +kernel
theorem dX12_isBad_59 : decode cX12_isBad 59 = .ok (.iload 4, 2) := by decide +kernel
theorem dX12_isBad_61 : decode cX12_isBad 61 = .ok (.iload 6, 2) := by decide +kernel
theorem dX12_isBad_63 : decode cX12_isBad 63 = .ok (.invokevirtual 181, 3) := by decide +kernel
theorem dX12_isBad_66 : decode cX12_isBad 66 = .ok (.istore 7, 2) := by decide +kernel
theorem dX12_isBad_68 : decode cX12_isBad 68 = .ok (.iload 5, 2) := by decide +kernel
theorem dX12_isBad_70 : decode cX12_isBad 70 = .ok (.ifCond .ne 36, 3) := by decide +kernel
theorem dX12_isBad_73 : decode cX12_isBad 73 = .ok (.aload_n 0, 1) := by decide +kernel
theorem dX12_isBad_74 : decode cX12_isBad 74 = .ok (.iload_n 1, 1) := by decide +kernel
theorem dX12_isBad_75 : decode cX12_isBad 75 = .ok (.iload 4, 2) := by decide +kernel
theorem dX12_isBad_77 : decode cX12_isBad 77 = .ok (.iload 6, 2) := by decide +kernel
theorem dX12_isBad_79 : decode cX12_isBad 79 = .ok (.invokevirtual 288, 3) := by decide +kernel
theorem dX12_isBad_82 : decode cX12_isBad 82 = .ok (.ifCond .ne 28, 3) := by decide +kernel
theorem dX12_isBad_85 : decode cX12_isBad 85 = .ok (.aload_n 0, 1) := by decide +kernel
theorem dX12_isBad_86 : decode cX12_isBad 86 = .ok (.getfield 104, 3) := by decide +kernel
theorem dX12_isBad_89 : decode cX12_isBad 89 = .ok (.iload 7, 2) := by decide +kernel
theorem dX12_isBad_91 : decode cX12_isBad 91 = .ok (.iaload, 1) := by decide +kernel
theorem dX12_isBad_92 : decode cX12_isBad 92 = .ok (.iconst 1, 1) := by decide +kernel
theorem dX12_isBad_93 : decode cX12_isBad 93 = .ok (.if_icmp .ne 17, 3) := by decide +kernel
theorem dX12_isBad_96 : decode cX12_isBad 96 = .ok (.iload 4, 2) := by decide +kernel
theorem dX12_isBad_98 : decode cX12_isBad 98 = .ok (.ifCond .ne 8, 3) := by decide +kernel
theorem dX12_isBad_101 : decode cX12_isBad 101 = .ok (.iload 7, 2) := by decide +kernel
theorem dX12_isBad_103 : decode cX12_isBad 103 = .ok (.ifCond .eq 7, 3) := by decide +kernel
theorem dX12_isBad_106 : decode cX12_isBad 106 = .ok (.iconst 1, 1) := by decide +kernel
theorem dX12_isBad_107 : decode cX12_isBad 107 = .ok (.goto 4, 3) := by decide +kernel
theorem dX12_isBad_110 : decode cX12_isBad 110 = .ok (.iconst 0, 1) := by decide +kernel
theorem dX12_isBad_111 : decode cX12_isBad 111 = .ok (.istore 5, 2) := by decide +kernel
theorem dX12_isBad_113 : decode cX12_isBad 113 = .ok (.iinc 6 1, 3) := by decide +kernel
theorem dX12_isBad_116 : decode cX12_isBad 116 = .ok (.goto (-65), 3) := by decide +kernel
theorem dX12_isBad_119 : decode cX12_isBad 119 = .ok (.aload_n 0, 1) := by decide +kernel
theorem dX12_isBad_120 : decode cX12_isBad 120 = .ok (.getfield 104, 3) := by decide +kernel
theorem dX12_isBad_123 : decode cX12_isBad 123 = .ok (.iload 4, 2) := by decide +kernel
theorem dX12_isBad_125 : decode cX12_isBad 125 = .ok (.aload_n 0, 1) := by decide +kernel
theorem dX12_isBad_126 : decode cX12_isBad 126 = .ok (.getfield 104, 3) := by decide +kernel
theorem dX12_isBad_129 : decode cX12_isBad 129 = .ok (.iload 4, 2) := by decide +kernel
theorem dX12_isBad_131 : decode cX12_isBad 131 = .ok (.iaload, 1) := by decide +kernel
theorem dX12_isBad_132 : decode cX12_isBad 132 = .ok (.iconst 1, 1) := by decide +kernel
theorem dX12_isBad_133 : decode cX12_isBad 133 = .ok (.if_icmp .ne 12, 3) := by decide +kernel
theorem dX12_isBad_136 : decode cX12_isBad 136 = .ok (.iload 5, 2) := by decide +kernel
theorem dX12_isBad_138 : decode cX12_isBad 138 = .ok (.ifCond .eq 7, 3) := by decide +kernel
theorem dX12_isBad_141 : decode cX12_isBad 141 = .ok (.iconst 1, 1) := by decide +kernel
theorem dX12_isBad_142 : decode cX12_isBad 142 = .ok (.goto 4, 3) := by decide +kernel
theorem dX12_isBad_145 : decode cX12_isBad 145 = .ok (.iconst 0, 1) := by decide +kernel
theorem dX12_isBad_146 : decode cX12_isBad 146 = .ok (.iastore, 1) := by decide +kernel
theorem dX12_isBad_147 : decode cX12_isBad 147 = .ok (.iinc 4 1, 3) := by decide +kernel
theorem dX12_isBad_150 : decode cX12_isBad 150 = .ok (.goto (-111), 3) := by decide +kernel
theorem dX12_isBad_153 : decode cX12_isBad 153 = .ok (.iinc 3 1, 3) := by decide +kernel
theorem dX12_isBad_156 : decode cX12_isBad 156 = .ok (.goto (-125), 3) := by decide +kernel
theorem dX12_isBad_159 : decode cX12_isBad 159 = .ok (.iconst 0, 1) := by decide +kernel
theorem dX12_isBad_160 : decode cX12_isBad 160 = .ok (.istore_n 3, 1) := by decide +kernel
theorem dX12_isBad_161 : decode cX12_isBad 161 = .ok (.iconst 0, 1) := by decide +kernel
theorem dX12_isBad_162 : decode cX12_isBad 162 = .ok (.istore 4, 2) := by decide +kernel
theorem dX12_isBad_164 : decode cX12_isBad 164 = .ok (.iload 4, 2) := by decide +kernel
theorem dX12_isBad_166 : decode cX12_isBad 166 = .ok (.iload_n 2, 1) := by decide +kernel
theorem dX12_isBad_167 : decode cX12_isBad 167 = .ok (.if_icmp .ge 19, 3) := by decide +kernel
theorem dX12_isBad_170 : decode cX12_isBad 170 = .ok (.iload_n 3, 1) := by decide +kernel
theorem dX12_isBad_171 : decode cX12_isBad 171 = .ok (.aload_n 0, 1) := by decide +kernel
theorem dX12_isBad_172 : decode cX12_isBad 172 = .ok (.getfield 104, 3) := by decide +kernel
theorem dX12_isBad_175 : decode cX12_isBad 175 = .ok (.iload 4, 2) := by decide +kernel
theorem dX12_isBad_177 : decode cX12_isBad 177 = .ok (.iaload, 1) := by decide +kernel
theorem dX12_isBad_178 : decode cX12_isBad 178 = .ok (.iadd, 1) := by decide +kernel
theorem dX12_isBad_179 : decode cX12_isBad 179 = .ok (.istore_n 3, 1) := by decide +kernel
theorem dX12_isBad_180 : decode cX12_isBad 180 = .ok (.iinc 4 1, 3) := by decide +kernel
theorem dX12_isBad_183 : decode cX12_isBad 183 = .ok (.goto (-19), 3) := by decide +kernel
theorem dX12_isBad_186 : decode cX12_isBad 186 = .ok (.iload_n 3, 1) := by decide +kernel
theorem dX12_isBad_187 : decode cX12_isBad 187 = .ok (.ifCond .le 7, 3) := by decide +kernel
theorem dX12_isBad_190 : decode cX12_isBad 190 = .ok (.iconst 1, 1) := by decide +kernel
theorem dX12_isBad_191 : decode cX12_isBad 191 = .ok (.goto 4, 3) := by decide +kernel
theorem dX12_isBad_194 : decode cX12_isBad 194 = .ok (.iconst 0, 1) := by decide +kernel
theorem dX12_isBad_195 : decode cX12_isBad 195 = .ok (.ireturn, 1) := by decide +kernel
theorem dX12_bad_0 : decode cX12_bad 0 = .ok (.aload_n 0, 1) := by decide +kernel
theorem dX12_bad_1 : decode cX12_bad 1 = .ok (.iload_n 1, 1) := by decide +kernel
theorem dX12_bad_2 : decode cX12_bad 2 = .ok (.invokevirtual 291, 3) := by decide +kernel
theorem dX12_bad_5 : decode cX12_bad 5 = .ok (.ifCond .eq 15, 3) := by decide +kernel
theorem dX12_bad_8 : decode cX12_bad 8 = .ok (.aload_n 0, 1) := by decide +kernel
theorem dX12_bad_9 : decode cX12_bad 9 = .ok (.iload_n 1, 1) := by decide +kernel
theorem dX12_bad_10 : decode cX12_bad 10 = .ok (.invokevirtual 294, 3) := by decide +kernel
theorem dX12_bad_13 : decode cX12_bad 13 = .ok (.ifCond .eq 7, 3) := by decide +kernel
theorem dX12_bad_16 : decode cX12_bad 16 = .ok (.iconst 1, 1) := by decide +kernel
theorem dX12_bad_17 : decode cX12_bad 17 = .ok (.goto 4, 3) := by decide +kernel
theorem dX12_bad_20 : decode cX12_bad 20 = .ok (.iconst 0, 1) := by decide +kernel
theorem dX12_bad_21 : decode cX12_bad 21 = .ok (.ireturn, 1) := by decide +kernel
theorem dX12_free_0 : decode cX12_free 0 = .ok (.aload_n 0, 1) := by decide +kernel
theorem dX12_free_1 : decode cX12_free 1 = .ok (.iload_n 1, 1) := by decide +kernel
theorem dX12_free_2 : decode cX12_free 2 = .ok (.invokevirtual 291, 3) := by decide +kernel
theorem dX12_free_5 : decode cX12_free 5 = .ok (.ifCond .ne 5, 3) := by decide +kernel
theorem dX12_free_8 : decode cX12_free 8 = .ok (.iconst 0, 1) := by decide +kernel
theorem dX12_free_9 : decode cX12_free 9 = .ok (.ireturn, 1) := by decide +kernel
theorem dX12_free_10 : decode cX12_free 10 = .ok (.aload_n 0, 1) := by decide +kernel
theorem dX12_free_11 : decode cX12_free 11 = .ok (.iload_n 1, 1) := by decide +kernel
theorem dX12_free_12 : decode cX12_free 12 = .ok (.invokevirtual 294, 3) := by decide +kernel
theorem dX12_free_15 : decode cX12_free 15 = .ok (.ifCond .eq 5, 3) := by decide +kernel
theorem dX12_free_18 : decode cX12_free 18 = .ok (.iconst (-1), 1) := by decide +kernel
theorem dX12_free_19 : decode cX12_free 19 = .ok (.ireturn, 1) := by decide +kernel
theorem dX12_free_20 : decode cX12_free 20 = .ok (.iconst 1, 1) := by decide +kernel
theorem dX12_free_21 : decode cX12_free 21 = .ok (.aload_n 0, 1) := by decide +kernel
theorem dX12_free_22 : decode cX12_free 22 = .ok (.getfield 25, 3) := by decide +kernel
theorem dX12_free_25 : decode cX12_free 25 = .ok (.iload_n 1, 1) := by decide +kernel
theorem dX12_free_26 : decode cX12_free 26 = .ok (.iaload, 1) := by decide +kernel
theorem dX12_free_27 : decode cX12_free 27 = .ok (.ishl, 1) := by decide +kernel
theorem dX12_free_28 : decode cX12_free 28 = .ok (.istore_n 2, 1) := by decide +kernel
theorem dX12_free_29 : decode cX12_free 29 = .ok (.iconst 0, 1) := by decide +kernel
theorem dX12_free_30 : decode cX12_free 30 = .ok (.istore_n 3, 1) := by decide +kernel
theorem dX12_free_31 : decode cX12_free 31 = .ok (.iload_n 3, 1) := by decide +kernel
theorem dX12_free_32 : decode cX12_free 32 = .ok (.iload_n 2, 1) := by decide +kernel
theorem dX12_free_33 : decode cX12_free 33 = .ok (.if_icmp .ge 17, 3) := by decide +kernel
theorem dX12_free_36 : decode cX12_free 36 = .ok (.aload_n 0, 1) := by decide +kernel
theorem dX12_free_37 : decode cX12_free 37 = .ok (.getfield 104, 3) := by decide +kernel
theorem dX12_free_40 : decode cX12_free 40 = .ok (.iload_n 3, 1) := by decide +kernel
theorem dX12_free_41 : decode cX12_free 41 = .ok (.ldc 217, 2) := by decide +kernel
theorem dX12_free_43 : decode cX12_free 43 = .ok (.iastore, 1) := by decide +kernel
theorem dX12_free_44 : decode cX12_free 44 = .ok (.iinc 3 1, 3) := by decide +kernel
theorem dX12_free_47 : decode cX12_free 47 = .ok (.goto (-16), 3) := by decide +kernel
theorem dX12_free_50 : decode cX12_free 50 = .ok (.iconst 0, 1) := by decide +kernel
theorem dX12_free_51 : decode cX12_free 51 = .ok (.istore_n 3, 1) := by decide +kernel
theorem dX12_free_52 : decode cX12_free 52 = .ok (.iload_n 3, 1) := by decide +kernel
theorem dX12_free_53 : decode cX12_free 53 = .ok (.iconst 2, 1) := by decide +kernel
theorem dX12_free_54 : decode cX12_free 54 = .ok (.if_icmp .ge 38, 3) := by decide +kernel
theorem dX12_free_57 : decode cX12_free 57 = .ok (.aload_n 0, 1) := by decide +kernel
theorem dX12_free_58 : decode cX12_free 58 = .ok (.iload_n 1, 1) := by decide +kernel
theorem dX12_free_59 : decode cX12_free 59 = .ok (.iconst 0, 1) := by decide +kernel
theorem dX12_free_60 : decode cX12_free 60 = .ok (.iload_n 3, 1) := by decide +kernel
theorem dX12_free_61 : decode cX12_free 61 = .ok (.invokevirtual 181, 3) := by decide +kernel
theorem dX12_free_64 : decode cX12_free 64 = .ok (.ifCond .eq 22, 3) := by decide +kernel
theorem dX12_free_67 : decode cX12_free 67 = .ok (.aload_n 0, 1) := by decide +kernel
theorem dX12_free_68 : decode cX12_free 68 = .ok (.getfield 104, 3) := by decide +kernel
theorem dX12_free_71 : decode cX12_free 71 = .ok (.aload_n 0, 1) := by decide +kernel
theorem dX12_free_72 : decode cX12_free 72 = .ok (.iload_n 1, 1) := by decide +kernel
theorem dX12_free_73 : decode cX12_free 73 = .ok (.iconst 0, 1) := by decide +kernel
theorem dX12_free_74 : decode cX12_free 74 = .ok (.iload_n 3, 1) := by decide +kernel
theorem dX12_free_75 : decode cX12_free 75 = .ok (.invokevirtual 181, 3) := by decide +kernel
theorem dX12_free_78 : decode cX12_free 78 = .ok (.aload_n 0, 1) := by decide +kernel
theorem dX12_free_79 : decode cX12_free 79 = .ok (.iload_n 1, 1) := by decide +kernel
theorem dX12_free_80 : decode cX12_free 80 = .ok (.iconst 0, 1) := by decide +kernel
theorem dX12_free_81 : decode cX12_free 81 = .ok (.iload_n 3, 1) := by decide +kernel
theorem dX12_free_82 : decode cX12_free 82 = .ok (.invokevirtual 288, 3) := by decide +kernel
theorem dX12_free_85 : decode cX12_free 85 = .ok (.iastore, 1) := by decide +kernel
theorem dX12_free_86 : decode cX12_free 86 = .ok (.iinc 3 1, 3) := by decide +kernel
theorem dX12_free_89 : decode cX12_free 89 = .ok (.goto (-37), 3) := by decide +kernel
theorem dX12_free_92 : decode cX12_free 92 = .ok (.ldc 217, 2) := by decide +kernel
theorem dX12_free_94 : decode cX12_free 94 = .ok (.istore_n 3, 1) := by decide +kernel
theorem dX12_free_95 : decode cX12_free 95 = .ok (.iconst 0, 1) := by decide +kernel
theorem dX12_free_96 : decode cX12_free 96 = .ok (.istore 4, 2) := by decide +kernel
theorem dX12_free_98 : decode cX12_free 98 = .ok (.iload 4, 2) := by decide +kernel
theorem dX12_free_100 : decode cX12_free 100 = .ok (.iload_n 2, 1) := by decide +kernel
theorem dX12_free_101 : decode cX12_free 101 = .ok (.if_icmp .ge 118, 3) := by decide +kernel
theorem dX12_free_104 : decode cX12_free 104 = .ok (.iconst 1, 1) := by decide +kernel
theorem dX12_free_105 : decode cX12_free 105 = .ok (.istore 5, 2) := by decide +kernel
theorem dX12_free_107 : decode cX12_free 107 = .ok (.iload 5, 2) := by decide +kernel
theorem dX12_free_109 : decode cX12_free 109 = .ok (.iload_n 2, 1) := by decide +kernel
theorem dX12_free_110 : decode cX12_free 110 = .ok (.if_icmp .ge 103, 3) := by decide +kernel
theorem dX12_free_113 : decode cX12_free 113 = .ok (.aload_n 0, 1) := by decide +kernel
theorem dX12_free_114 : decode cX12_free 114 = .ok (.getfield 104, 3) := by decide +kernel
theorem dX12_free_117 : decode cX12_free 117 = .ok (.iload 5, 2) := by decide +kernel
theorem dX12_free_119 : decode cX12_free 119 = .ok (.iaload, 1) := by decide +kernel
theorem dX12_free_120 : decode cX12_free 120 = .ok (.ldc 217, 2) := by decide +kernel
theorem dX12_free_122 : decode cX12_free 122 = .ok (.if_icmp .ne 6, 3) := by decide +kernel
theorem dX12_free_125 : decode cX12_free 125 = .ok (.goto 82, 3) := by decide +kernel
theorem dX12_free_128 : decode cX12_free 128 = .ok (.iconst 0, 1) := by decide +kernel
theorem dX12_free_129 : decode cX12_free 129 = .ok (.istore 6, 2) := by decide +kernel
theorem dX12_free_131 : decode cX12_free 131 = .ok (.iload 6, 2) := by decide +kernel
theorem dX12_free_133 : decode cX12_free 133 = .ok (.iconst 2, 1) := by decide +kernel
theorem dX12_free_134 : decode cX12_free 134 = .ok (.if_icmp .ge 73, 3) := by decide +kernel
theorem dX12_free_137 : decode cX12_free 137 = .ok (.aload_n 0, 1) := by decide +kernel
theorem dX12_free_138 : decode cX12_free 138 = .ok (.iload_n 1, 1) := by decide +kernel
theorem dX12_free_139 : decode cX12_free 139 = .ok (.iload 5, 2) := by decide +kernel
theorem dX12_free_141 : decode cX12_free 141 = .ok (.iload 6, 2) := by decide +kernel
theorem dX12_free_143 : decode cX12_free 143 = .ok (.invokevirtual 181, 3) := by decide +kernel
theorem dX12_free_146 : decode cX12_free 146 = .ok (.istore 7, 2) := by decide +kernel
theorem dX12_free_148 : decode cX12_free 148 = .ok (.aload_n 0, 1) := by decide +kernel
theorem dX12_free_149 : decode cX12_free 149 = .ok (.getfield 104, 3) := by decide +kernel
theorem dX12_free_152 : decode cX12_free 152 = .ok (.iload 5, 2) := by decide +kernel
theorem dX12_free_154 : decode cX12_free 154 = .ok (.iaload, 1) := by decide +kernel
theorem dX12_free_155 : decode cX12_free 155 = .ok (.aload_n 0, 1) := by decide +kernel
theorem dX12_free_156 : decode cX12_free 156 = .ok (.iload_n 1, 1) := by decide +kernel
theorem dX12_free_157 : decode cX12_free 157 = .ok (.iload 5, 2) := by decide +kernel
theorem dX12_free_159 : decode cX12_free 159 = .ok (.iload 6, 2) := by decide +kernel
theorem dX12_free_161 : decode cX12_free 161 = .ok (.invokevirtual 288, 3) := by decide +kernel
theorem dX12_free_164 : decode cX12_free 164 = .ok (.iadd, 1) := by decide +kernel
theorem dX12_free_165 : decode cX12_free 165 = .ok (.istore 8, 2) := by decide +kernel
theorem dX12_free_167 : decode cX12_free 167 = .ok (.iload 7, 2) := by decide +kernel
theorem dX12_free_169 : decode cX12_free 169 = .ok (.ifCond .ne 13, 3) := by decide +kernel
theorem dX12_free_172 : decode cX12_free 172 = .ok (.iload_n 3, 1) := by decide +kernel
theorem dX12_free_173 : decode cX12_free 173 = .ok (.iload 8, 2) := by decide +kernel
theorem dX12_free_175 : decode cX12_free 175 = .ok (.invokestatic 158, 3) := by decide +kernel
theorem dX12_free_178 : decode cX12_free 178 = .ok (.istore_n 3, 1) := by decide +kernel
theorem dX12_free_179 : decode cX12_free 179 = .ok (.goto 22, 3) := by decide +kernel
theorem dX12_free_182 : decode cX12_free 182 = .ok (.aload_n 0, 1) := by decide +kernel
theorem dX12_free_183 : decode cX12_free 183 = .ok (.getfield 104, 3) := by decide +kernel
theorem dX12_free_186 : decode cX12_free 186 = .ok (.iload 7, 2) := by decide +kernel
theorem dX12_free_188 : decode cX12_free 188 = .ok (.aload_n 0, 1) := by decide +kernel
theorem dX12_free_189 : decode cX12_free 189 = .ok (.getfield 104, 3) := by decide +kernel
theorem dX12_free_192 : decode cX12_free 192 = .ok (.iload 7, 2) := by decide +kernel
theorem dX12_free_194 : decode cX12_free 194 = .ok (.iaload, 1) := by decide +kernel
theorem dX12_free_195 : decode cX12_free 195 = .ok (.iload 8, 2) := by decide +kernel
theorem dX12_free_197 : decode cX12_free 197 = .ok (.invokestatic 158, 3) := by decide +kernel
theorem dX12_free_200 : decode cX12_free 200 = .ok (.iastore, 1) := by decide +kernel
theorem dX12_free_201 : decode cX12_free 201 = .ok (.iinc 6 1, 3) := by decide +kernel
theorem dX12_free_204 : decode cX12_free 204 = .ok (.goto (-73), 3) := by decide +kernel
theorem dX12_free_207 : decode cX12_free 207 = .ok (.iinc 5 1, 3) := by decide +kernel
theorem dX12_free_210 : decode cX12_free 210 = .ok (.goto (-103), 3) := by decide +kernel
theorem dX12_free_213 : decode cX12_free 213 = .ok (.iinc 4 1, 3) := by decide +kernel
theorem dX12_free_216 : decode cX12_free 216 = .ok (.goto (-118), 3) := by decide +kernel
theorem dX12_free_219 : decode cX12_free 219 = .ok (.iload_n 3, 1) := by decide +kernel
theorem dX12_free_220 : decode cX12_free 220 = .ok (.ireturn, 1) := by decide +kernel
theorem dX12_weights_0 : decode cX12_weights 0 = .ok (.aload_n 0, 1) := by decide +kernel
theorem dX12_weights_1 : decode cX12_weights 1 = .ok (.iload_n 1, 1) := by decide +kernel
theorem dX12_weights_2 : decode cX12_weights 2 = .ok (.invokevirtual 291, 3) := by decide +kernel
theorem dX12_weights_5 : decode cX12_weights 5 = .ok (.ifCond .eq 26, 3) := by decide +kernel
theorem dX12_weights_8 : decode cX12_weights 8 = .ok (.aload_n 0, 1) := by decide +kernel
theorem dX12_weights_9 : decode cX12_weights 9 = .ok (.iload_n 2, 1) := by decide +kernel
theorem dX12_weights_10 : decode cX12_weights 10 = .ok (.ifCond .lt 13, 3) := by decide +kernel
theorem dX12_weights_13 : decode cX12_weights 13 = .ok (.iload_n 2, 1) := by decide +kernel
theorem dX12_weights_14 : decode cX12_weights 14 = .ok (.bipush 30, 2) := by decide +kernel
theorem dX12_weights_16 : decode cX12_weights 16 = .ok (.if_icmp .gt 7, 3) := by decide +kernel
theorem dX12_weights_19 : decode cX12_weights 19 = .ok (.iconst 1, 1) := by decide +kernel
theorem dX12_weights_20 : decode cX12_weights 20 = .ok (.goto 4, 3) := by decide +kernel
theorem dX12_weights_23 : decode cX12_weights 23 = .ok (.iconst 0, 1) := by decide +kernel
theorem dX12_weights_24 : decode cX12_weights 24 = .ok (.iconst 3, 1) := by decide +kernel
theorem dX12_weights_25 : decode cX12_weights 25 = .ok (.invokevirtual 133, 3) := by decide +kernel
theorem dX12_weights_28 : decode cX12_weights 28 = .ok (.ifCond .ne 5, 3) := by decide +kernel
theorem dX12_weights_31 : decode cX12_weights 31 = .ok (.lconst 0, 1) := by decide +kernel
theorem dX12_weights_32 : decode cX12_weights 32 = .ok (.lreturn, 1) := by decide +kernel
theorem dX12_weights_33 : decode cX12_weights 33 = .ok (.aload_n 0, 1) := by decide +kernel
theorem dX12_weights_34 : decode cX12_weights 34 = .ok (.iload_n 1, 1) := by decide +kernel
theorem dX12_weights_35 : decode cX12_weights 35 = .ok (.invokevirtual 294, 3) := by decide +kernel
theorem dX12_weights_38 : decode cX12_weights 38 = .ok (.ifCond .eq 7, 3) := by decide +kernel
theorem dX12_weights_41 : decode cX12_weights 41 = .ok (.ldc2_w 297, 3) := by decide +kernel
theorem dX12_weights_44 : decode cX12_weights 44 = .ok (.lreturn, 1) := by decide +kernel
theorem dX12_weights_45 : decode cX12_weights 45 = .ok (.iconst 1, 1) := by decide +kernel
theorem dX12_weights_46 : decode cX12_weights 46 = .ok (.aload_n 0, 1) := by decide +kernel
theorem dX12_weights_47 : decode cX12_weights 47 = .ok (.getfield 25, 3) := by decide +kernel
theorem dX12_weights_50 : decode cX12_weights 50 = .ok (.iload_n 1, 1) := by decide +kernel
theorem dX12_weights_51 : decode cX12_weights 51 = .ok (.iaload, 1) := by decide +kernel
theorem dX12_weights_52 : decode cX12_weights 52 = .ok (.ishl, 1) := by decide +kernel
theorem dX12_weights_53 : decode cX12_weights 53 = .ok (.istore_n 3, 1) := by decide +kernel
theorem dX12_weights_54 : decode cX12_weights 54 = .ok (.iconst 0, 1) := by decide +kernel
theorem dX12_weights_55 : decode cX12_weights 55 = .ok (.istore 4, 2) := by decide +kernel
theorem dX12_weights_57 : decode cX12_weights 57 = .ok (.iload 4, 2) := by decide +kernel
theorem dX12_weights_59 : decode cX12_weights 59 = .ok (.sipush 2048, 3) := by decide +kernel
theorem dX12_weights_62 : decode cX12_weights 62 = .ok (.if_icmp .ge 17, 3) := by decide +kernel
theorem dX12_weights_65 : decode cX12_weights 65 = .ok (.aload_n 0, 1) := by decide +kernel
theorem dX12_weights_66 : decode cX12_weights 66 = .ok (.getfield 119, 3) := by decide +kernel
theorem dX12_weights_69 : decode cX12_weights 69 = .ok (.iload 4, 2) := by decide +kernel
theorem dX12_weights_71 : decode cX12_weights 71 = .ok (.lconst 0, 1) := by decide +kernel
theorem dX12_weights_72 : decode cX12_weights 72 = .ok (.lastore, 1) := by decide +kernel
theorem dX12_weights_73 : decode cX12_weights 73 = .ok (.iinc 4 1, 3) := by decide +kernel
theorem dX12_weights_76 : decode cX12_weights 76 = .ok (.goto (-19), 3) := by decide +kernel
theorem dX12_weights_79 : decode cX12_weights 79 = .ok (.iconst 0, 1) := by decide +kernel
theorem dX12_weights_80 : decode cX12_weights 80 = .ok (.istore 4, 2) := by decide +kernel
theorem dX12_weights_82 : decode cX12_weights 82 = .ok (.iload 4, 2) := by decide +kernel
theorem dX12_weights_84 : decode cX12_weights 84 = .ok (.iconst 2, 1) := by decide +kernel
theorem dX12_weights_85 : decode cX12_weights 85 = .ok (.if_icmp .ge 49, 3) := by decide +kernel
theorem dX12_weights_88 : decode cX12_weights 88 = .ok (.aload_n 0, 1) := by decide +kernel
theorem dX12_weights_89 : decode cX12_weights 89 = .ok (.iload_n 1, 1) := by decide +kernel
theorem dX12_weights_90 : decode cX12_weights 90 = .ok (.iconst 0, 1) := by decide +kernel
theorem dX12_weights_91 : decode cX12_weights 91 = .ok (.iload 4, 2) := by decide +kernel
theorem dX12_weights_93 : decode cX12_weights 93 = .ok (.invokevirtual 181, 3) := by decide +kernel
theorem dX12_weights_96 : decode cX12_weights 96 = .ok (.ifCond .eq 32, 3) := by decide +kernel
theorem dX12_weights_99 : decode cX12_weights 99 = .ok (.aload_n 0, 1) := by decide +kernel
theorem dX12_weights_100 : decode cX12_weights 100 = .ok (.getfield 119, 3) := by decide +kernel
theorem dX12_weights_103 : decode cX12_weights 103 = .ok (.bipush 64, 2) := by decide +kernel
theorem dX12_weights_105 : decode cX12_weights 105 = .ok (.aload_n 0, 1) := by decide +kernel
theorem dX12_weights_106 : decode cX12_weights 106 = .ok (.iload_n 1, 1) := by decide +kernel
theorem dX12_weights_107 : decode cX12_weights 107 = .ok (.iconst 0, 1) := by decide +kernel
theorem dX12_weights_108 : decode cX12_weights 108 = .ok (.iload 4, 2) := by decide +kernel
theorem dX12_weights_110 : decode cX12_weights 110 = .ok (.invokevirtual 288, 3) := by decide +kernel
theorem dX12_weights_113 : decode cX12_weights 113 = .ok (.imul, 1) := by decide +kernel
theorem dX12_weights_114 : decode cX12_weights 114 = .ok (.aload_n 0, 1) := by decide +kernel
theorem dX12_weights_115 : decode cX12_weights 115 = .ok (.iload_n 1, 1) := by decide +kernel
theorem dX12_weights_116 : decode cX12_weights 116 = .ok (.iconst 0, 1) := by decide +kernel
theorem dX12_weights_117 : decode cX12_weights 117 = .ok (.iload 4, 2) := by decide +kernel
theorem dX12_weights_119 : decode cX12_weights 119 = .ok (.invokevirtual 181, 3) := by decide +kernel
theorem dX12_weights_122 : decode cX12_weights 122 = .ok (.iadd, 1) := by decide +kernel
theorem dX12_weights_123 : decode cX12_weights 123 = .ok (.dup2, 1) := by decide +kernel
theorem dX12_weights_124 : decode cX12_weights 124 = .ok (.laload, 1) := by decide +kernel
theorem dX12_weights_125 : decode cX12_weights 125 = .ok (.lconst 1, 1) := by decide +kernel
theorem dX12_weights_126 : decode cX12_weights 126 = .ok (.ladd, 1) := by decide +kernel
theorem dX12_weights_127 : decode cX12_weights 127 = .ok (.lastore, 1) := by decide +kernel
theorem dX12_weights_128 : decode cX12_weights 128 = .ok (.iinc 4 1, 3) := by decide +kernel
theorem dX12_weights_131 : decode cX12_weights 131 = .ok (.goto (-49), 3) := by decide +kernel
theorem dX12_weights_134 : decode cX12_weights 134 = .ok (.lconst 0, 1) := by decide +kernel
theorem dX12_weights_135 : decode cX12_weights 135 = .ok (.lstore 4, 2) := by decide +kernel
theorem dX12_weights_137 : decode cX12_weights 137 = .ok (.iconst 0, 1) := by decide +kernel
theorem dX12_weights_138 : decode cX12_weights 138 = .ok (.istore 6, 2) := by decide +kernel
theorem dX12_weights_140 : decode cX12_weights 140 = .ok (.iload 6, 2) := by decide +kernel
theorem dX12_weights_142 : decode cX12_weights 142 = .ok (.iload_n 2, 1) := by decide +kernel
theorem dX12_weights_143 : decode cX12_weights 143 = .ok (.if_icmp .gt 148, 3) := by decide +kernel
theorem dX12_weights_146 : decode cX12_weights 146 = .ok (.aload_n 0, 1) := by decide +kernel
theorem dX12_weights_147 : decode cX12_weights 147 = .ok (.iload_n 1, 1) := by decide +kernel
theorem dX12_weights_148 : decode cX12_weights 148 = .ok (.iload 6, 2) := by decide +kernel
theorem dX12_weights_150 : decode cX12_weights 150 = .ok (.iload_n 3, 1) := by decide +kernel
theorem dX12_weights_151 : decode cX12_weights 151 = .ok (.invokevirtual 299, 3) := by decide +kernel
theorem dX12_weights_154 : decode cX12_weights 154 = .ok (.iconst 1, 1) := by decide +kernel
theorem dX12_weights_155 : decode cX12_weights 155 = .ok (.istore 7, 2) := by decide +kernel
theorem dX12_weights_157 : decode cX12_weights 157 = .ok (.iload 7, 2) := by decide +kernel
theorem dX12_weights_159 : decode cX12_weights 159 = .ok (.iload_n 3, 1) := by decide +kernel
theorem dX12_weights_160 : decode cX12_weights 160 = .ok (.if_icmp .ge 125, 3) := by decide +kernel
theorem dX12_weights_163 : decode cX12_weights 163 = .ok (.iconst 0, 1) := by decide +kernel
theorem dX12_weights_164 : decode cX12_weights 164 = .ok (.istore 8, 2) := by decide +kernel
theorem dX12_weights_166 : decode cX12_weights 166 = .ok (.iload 8, 2) := by decide +kernel
theorem dX12_weights_168 : decode cX12_weights 168 = .ok (.iconst 2, 1) := by decide +kernel
theorem dX12_weights_169 : decode cX12_weights 169 = .ok (.if_icmp .ge 110, 3) := by decide +kernel
theorem dX12_weights_172 : decode cX12_weights 172 = .ok (.aload_n 0, 1) := by decide +kernel
theorem dX12_weights_173 : decode cX12_weights 173 = .ok (.iload_n 1, 1) := by decide +kernel
theorem dX12_weights_174 : decode cX12_weights 174 = .ok (.iload 7, 2) := by decide +kernel
theorem dX12_weights_176 : decode cX12_weights 176 = .ok (.iload 8, 2) := by decide +kernel
theorem dX12_weights_178 : decode cX12_weights 178 = .ok (.invokevirtual 181, 3) := by decide +kernel
theorem dX12_weights_181 : decode cX12_weights 181 = .ok (.istore 9, 2) := by decide +kernel
theorem dX12_weights_183 : decode cX12_weights 183 = .ok (.iload 6, 2) := by decide +kernel
theorem dX12_weights_185 : decode cX12_weights 185 = .ok (.aload_n 0, 1) := by decide +kernel
theorem dX12_weights_186 : decode cX12_weights 186 = .ok (.iload_n 1, 1) := by decide +kernel
theorem dX12_weights_187 : decode cX12_weights 187 = .ok (.iload 7, 2) := by decide +kernel
theorem dX12_weights_189 : decode cX12_weights 189 = .ok (.iload 8, 2) := by decide +kernel
theorem dX12_weights_191 : decode cX12_weights 191 = .ok (.invokevirtual 288, 3) := by decide +kernel
theorem dX12_weights_194 : decode cX12_weights 194 = .ok (.iadd, 1) := by decide +kernel
theorem dX12_weights_195 : decode cX12_weights 195 = .ok (.istore 10, 2) := by decide +kernel
theorem dX12_weights_197 : decode cX12_weights 197 = .ok (.iload 9, 2) := by decide +kernel
theorem dX12_weights_199 : decode cX12_weights 199 = .ok (.ifCond .ne 27, 3) := by decide +kernel
theorem dX12_weights_202 : decode cX12_weights 202 = .ok (.iload 10, 2) := by decide +kernel
theorem dX12_weights_204 : decode cX12_weights 204 = .ok (.iload_n 2, 1) := by decide +kernel
theorem dX12_weights_205 : decode cX12_weights 205 = .ok (.if_icmp .ne 21, 3) := by decide +kernel
theorem dX12_weights_208 : decode cX12_weights 208 = .ok (.lload 4, 2) := by decide +kernel
theorem dX12_weights_210 : decode cX12_weights 210 = .ok (.aload_n 0, 1) := by decide +kernel
theorem dX12_weights_211 : decode cX12_weights 211 = .ok (.getfield 119, 3) := by decide +kernel
theorem dX12_weights_214 : decode cX12_weights 214 = .ok (.bipush 64, 2) := by decide +kernel
theorem dX12_weights_216 : decode cX12_weights 216 = .ok (.iload 6, 2) := by decide +kernel
theorem dX12_weights_218 : decode cX12_weights 218 = .ok (.imul, 1) := by decide +kernel
theorem dX12_weights_219 : decode cX12_weights 219 = .ok (.iload 7, 2) := by decide +kernel
theorem dX12_weights_221 : decode cX12_weights 221 = .ok (.iadd, 1) := by decide +kernel
theorem dX12_weights_222 : decode cX12_weights 222 = .ok (.laload, 1) := by decide +kernel
theorem dX12_weights_223 : decode cX12_weights 223 = .ok (.ladd, 1) := by decide +kernel
theorem dX12_weights_224 : decode cX12_weights 224 = .ok (.lstore 4, 2) := by decide +kernel
theorem dX12_weights_226 : decode cX12_weights 226 = .ok (.iload 9, 2) := by decide +kernel
theorem dX12_weights_228 : decode cX12_weights 228 = .ok (.ifCond .eq 45, 3) := by decide +kernel
theorem dX12_weights_231 : decode cX12_weights 231 = .ok (.iload 10, 2) := by decide +kernel
theorem dX12_weights_233 : decode cX12_weights 233 = .ok (.iload 6, 2) := by decide +kernel
theorem dX12_weights_235 : decode cX12_weights 235 = .ok (.if_icmp .le 38, 3) := by decide +kernel
theorem dX12_weights_238 : decode cX12_weights 238 = .ok (.iload 10, 2) := by decide +kernel
theorem dX12_weights_240 : decode cX12_weights 240 = .ok (.iload_n 2, 1) := by decide +kernel
theorem dX12_weights_241 : decode cX12_weights 241 = .ok (.if_icmp .gt 32, 3) := by decide +kernel
theorem dX12_weights_244 : decode cX12_weights 244 = .ok (.aload_n 0, 1) := by decide +kernel
theorem dX12_weights_245 : decode cX12_weights 245 = .ok (.getfield 119, 3) := by decide +kernel
theorem dX12_weights_248 : decode cX12_weights 248 = .ok (.bipush 64, 2) := by decide +kernel
theorem dX12_weights_250 : decode cX12_weights 250 = .ok (.iload 10, 2) := by decide +kernel
theorem dX12_weights_252 : decode cX12_weights 252 = .ok (.imul, 1) := by decide +kernel
theorem dX12_weights_253 : decode cX12_weights 253 = .ok (.iload 9, 2) := by decide +kernel
theorem dX12_weights_255 : decode cX12_weights 255 = .ok (.iadd, 1) := by decide +kernel
theorem dX12_weights_256 : decode cX12_weights 256 = .ok (.dup2, 1) := by decide +kernel
theorem dX12_weights_257 : decode cX12_weights 257 = .ok (.laload, 1) := by decide +kernel
theorem dX12_weights_258 : decode cX12_weights 258 = .ok (.aload_n 0, 1) := by decide +kernel
theorem dX12_weights_259 : decode cX12_weights 259 = .ok (.getfield 119, 3) := by decide +kernel
theorem dX12_weights_262 : decode cX12_weights 262 = .ok (.bipush 64, 2) := by decide +kernel
theorem dX12_weights_264 : decode cX12_weights 264 = .ok (.iload 6, 2) := by decide +kernel
theorem dX12_weights_266 : decode cX12_weights 266 = .ok (.imul, 1) := by decide +kernel
theorem dX12_weights_267 : decode cX12_weights 267 = .ok (.iload 7, 2) := by decide +kernel
theorem dX12_weights_269 : decode cX12_weights 269 = .ok (.iadd, 1) := by decide +kernel
theorem dX12_weights_270 : decode cX12_weights 270 = .ok (.laload, 1) := by decide +kernel
theorem dX12_weights_271 : decode cX12_weights 271 = .ok (.ladd, 1) := by decide +kernel
theorem dX12_weights_272 : decode cX12_weights 272 = .ok (.lastore, 1) := by decide +kernel
theorem dX12_weights_273 : decode cX12_weights 273 = .ok (.iinc 8 1, 3) := by decide +kernel
theorem dX12_weights_276 : decode cX12_weights 276 = .ok (.goto (-110), 3) := by decide +kernel
theorem dX12_weights_279 : decode cX12_weights 279 = .ok (.iinc 7 1, 3) := by decide +kernel
theorem dX12_weights_282 : decode cX12_weights 282 = .ok (.goto (-125), 3) := by decide +kernel
theorem dX12_weights_285 : decode cX12_weights 285 = .ok (.iinc 6 1, 3) := by decide +kernel
theorem dX12_weights_288 : decode cX12_weights 288 = .ok (.goto (-148), 3) := by decide +kernel
theorem dX12_weights_291 : decode cX12_weights 291 = .ok (.lload 4, 2) := by decide +kernel
theorem dX12_weights_293 : decode cX12_weights 293 = .ok (.lreturn, 1) := by decide +kernel
theorem dX12_settles_0 : decode cX12_settles 0 = .ok (.iconst 0, 1) := by decide +kernel
theorem dX12_settles_1 : decode cX12_settles 1 = .ok (.istore 4, 2) := by decide +kernel
theorem dX12_settles_3 : decode cX12_settles 3 = .ok (.iload 4, 2) := by decide +kernel
theorem dX12_settles_5 : decode cX12_settles 5 = .ok (.iload_n 3, 1) := by decide +kernel
theorem dX12_settles_6 : decode cX12_settles 6 = .ok (.if_icmp .ge 28, 3) := by decide +kernel
theorem dX12_settles_9 : decode cX12_settles 9 = .ok (.aload_n 0, 1) := by decide +kernel
theorem dX12_settles_10 : decode cX12_settles 10 = .ok (.getfield 123, 3) := by decide +kernel
theorem dX12_settles_13 : decode cX12_settles 13 = .ok (.iload 4, 2) := by decide +kernel
theorem dX12_settles_15 : decode cX12_settles 15 = .ok (.aload_n 0, 1) := by decide +kernel
theorem dX12_settles_16 : decode cX12_settles 16 = .ok (.getfield 119, 3) := by decide +kernel
theorem dX12_settles_19 : decode cX12_settles 19 = .ok (.bipush 64, 2) := by decide +kernel
theorem dX12_settles_21 : decode cX12_settles 21 = .ok (.iload_n 2, 1) := by decide +kernel
theorem dX12_settles_22 : decode cX12_settles 22 = .ok (.imul, 1) := by decide +kernel
theorem dX12_settles_23 : decode cX12_settles 23 = .ok (.iload 4, 2) := by decide +kernel
theorem dX12_settles_25 : decode cX12_settles 25 = .ok (.iadd, 1) := by decide +kernel
theorem dX12_settles_26 : decode cX12_settles 26 = .ok (.laload, 1) := by decide +kernel
theorem dX12_settles_27 : decode cX12_settles 27 = .ok (.lastore, 1) := by decide +kernel
theorem dX12_settles_28 : decode cX12_settles 28 = .ok (.iinc 4 1, 3) := by decide +kernel
theorem dX12_settles_31 : decode cX12_settles 31 = .ok (.goto (-28), 3) := by decide +kernel
theorem dX12_settles_34 : decode cX12_settles 34 = .ok (.iconst 0, 1) := by decide +kernel
theorem dX12_settles_35 : decode cX12_settles 35 = .ok (.istore 4, 2) := by decide +kernel
theorem dX12_settles_37 : decode cX12_settles 37 = .ok (.iload 4, 2) := by decide +kernel
theorem dX12_settles_39 : decode cX12_settles 39 = .ok (.iload_n 3, 1) := by decide +kernel
theorem dX12_settles_40 : decode cX12_settles 40 = .ok (.if_icmp .ge 161, 3) := by decide +kernel
theorem dX12_settles_43 : decode cX12_settles 43 = .ok (.iconst 0, 1) := by decide +kernel
theorem dX12_settles_44 : decode cX12_settles 44 = .ok (.istore 5, 2) := by decide +kernel
theorem dX12_settles_46 : decode cX12_settles 46 = .ok (.iload 5, 2) := by decide +kernel
theorem dX12_settles_48 : decode cX12_settles 48 = .ok (.iload_n 3, 1) := by decide +kernel
theorem dX12_settles_49 : decode cX12_settles 49 = .ok (.if_icmp .ge 17, 3) := by decide +kernel
theorem dX12_settles_52 : decode cX12_settles 52 = .ok (.aload_n 0, 1) := by decide +kernel
theorem dX12_settles_53 : decode cX12_settles 53 = .ok (.getfield 126, 3) := by decide +kernel
theorem dX12_settles_56 : decode cX12_settles 56 = .ok (.iload 5, 2) := by decide +kernel
theorem dX12_settles_58 : decode cX12_settles 58 = .ok (.lconst 0, 1) := by decide +kernel
theorem dX12_settles_59 : decode cX12_settles 59 = .ok (.lastore, 1) := by decide +kernel
theorem dX12_settles_60 : decode cX12_settles 60 = .ok (.iinc 5 1, 3) := by decide +kernel
theorem dX12_settles_63 : decode cX12_settles 63 = .ok (.goto (-17), 3) := by decide +kernel
theorem dX12_settles_66 : decode cX12_settles 66 = .ok (.iconst 1, 1) := by decide +kernel
theorem dX12_settles_67 : decode cX12_settles 67 = .ok (.istore 5, 2) := by decide +kernel
theorem dX12_settles_69 : decode cX12_settles 69 = .ok (.iload 5, 2) := by decide +kernel
theorem dX12_settles_71 : decode cX12_settles 71 = .ok (.iload_n 3, 1) := by decide +kernel
theorem dX12_settles_72 : decode cX12_settles 72 = .ok (.if_icmp .ge 72, 3) := by decide +kernel
theorem dX12_settles_75 : decode cX12_settles 75 = .ok (.iconst 0, 1) := by decide +kernel
theorem dX12_settles_76 : decode cX12_settles 76 = .ok (.istore 6, 2) := by decide +kernel
theorem dX12_settles_78 : decode cX12_settles 78 = .ok (.iload 6, 2) := by decide +kernel
theorem dX12_settles_80 : decode cX12_settles 80 = .ok (.iconst 2, 1) := by decide +kernel
theorem dX12_settles_81 : decode cX12_settles 81 = .ok (.if_icmp .ge 57, 3) := by decide +kernel
theorem dX12_settles_84 : decode cX12_settles 84 = .ok (.aload_n 0, 1) := by decide +kernel
theorem dX12_settles_85 : decode cX12_settles 85 = .ok (.iload_n 1, 1) := by decide +kernel
theorem dX12_settles_86 : decode cX12_settles 86 = .ok (.iload 5, 2) := by decide +kernel
theorem dX12_settles_88 : decode cX12_settles 88 = .ok (.iload 6, 2) := by decide +kernel
theorem dX12_settles_90 : decode cX12_settles 90 = .ok (.invokevirtual 181, 3) := by decide +kernel
theorem dX12_settles_93 : decode cX12_settles 93 = .ok (.ifCond .eq 39, 3) := by decide +kernel
theorem dX12_settles_96 : decode cX12_settles 96 = .ok (.aload_n 0, 1) := by decide +kernel
theorem dX12_settles_97 : decode cX12_settles 97 = .ok (.iload_n 1, 1) := by decide +kernel
theorem dX12_settles_98 : decode cX12_settles 98 = .ok (.iload 5, 2) := by decide +kernel
theorem dX12_settles_100 : decode cX12_settles 100 = .ok (.iload 6, 2) := by decide +kernel
theorem dX12_settles_102 : decode cX12_settles 102 = .ok (.invokevirtual 288, 3) := by decide +kernel
theorem dX12_settles_105 : decode cX12_settles 105 = .ok (.ifCond .ne 27, 3) := by decide +kernel
theorem dX12_settles_108 : decode cX12_settles 108 = .ok (.aload_n 0, 1) := by decide +kernel
theorem dX12_settles_109 : decode cX12_settles 109 = .ok (.getfield 126, 3) := by decide +kernel
theorem dX12_settles_112 : decode cX12_settles 112 = .ok (.aload_n 0, 1) := by decide +kernel
theorem dX12_settles_113 : decode cX12_settles 113 = .ok (.iload_n 1, 1) := by decide +kernel
theorem dX12_settles_114 : decode cX12_settles 114 = .ok (.iload 5, 2) := by decide +kernel
theorem dX12_settles_116 : decode cX12_settles 116 = .ok (.iload 6, 2) := by decide +kernel
theorem dX12_settles_118 : decode cX12_settles 118 = .ok (.invokevirtual 181, 3) := by decide +kernel
theorem dX12_settles_121 : decode cX12_settles 121 = .ok (.dup2, 1) := by decide +kernel
theorem dX12_settles_122 : decode cX12_settles 122 = .ok (.laload, 1) := by decide +kernel
theorem dX12_settles_123 : decode cX12_settles 123 = .ok (.aload_n 0, 1) := by decide +kernel
theorem dX12_settles_124 : decode cX12_settles 124 = .ok (.getfield 123, 3) := by decide +kernel
theorem dX12_settles_127 : decode cX12_settles 127 = .ok (.iload 5, 2) := by decide +kernel
theorem dX12_settles_129 : decode cX12_settles 129 = .ok (.laload, 1) := by decide +kernel
theorem dX12_settles_130 : decode cX12_settles 130 = .ok (.ladd, 1) := by decide +kernel
theorem dX12_settles_131 : decode cX12_settles 131 = .ok (.lastore, 1) := by decide +kernel
theorem dX12_settles_132 : decode cX12_settles 132 = .ok (.iinc 6 1, 3) := by decide +kernel
theorem dX12_settles_135 : decode cX12_settles 135 = .ok (.goto (-57), 3) := by decide +kernel
theorem dX12_settles_138 : decode cX12_settles 138 = .ok (.iinc 5 1, 3) := by decide +kernel
theorem dX12_settles_141 : decode cX12_settles 141 = .ok (.goto (-72), 3) := by decide +kernel
theorem dX12_settles_144 : decode cX12_settles 144 = .ok (.iconst 0, 1) := by decide +kernel
theorem dX12_settles_145 : decode cX12_settles 145 = .ok (.istore 5, 2) := by decide +kernel
theorem dX12_settles_147 : decode cX12_settles 147 = .ok (.iload 5, 2) := by decide +kernel
theorem dX12_settles_149 : decode cX12_settles 149 = .ok (.iload_n 3, 1) := by decide +kernel
theorem dX12_settles_150 : decode cX12_settles 150 = .ok (.if_icmp .ge 45, 3) := by decide +kernel
theorem dX12_settles_153 : decode cX12_settles 153 = .ok (.aload_n 0, 1) := by decide +kernel
theorem dX12_settles_154 : decode cX12_settles 154 = .ok (.getfield 123, 3) := by decide +kernel
theorem dX12_settles_157 : decode cX12_settles 157 = .ok (.iload 5, 2) := by decide +kernel
theorem dX12_settles_159 : decode cX12_settles 159 = .ok (.aload_n 0, 1) := by decide +kernel
theorem dX12_settles_160 : decode cX12_settles 160 = .ok (.getfield 126, 3) := by decide +kernel
theorem dX12_settles_163 : decode cX12_settles 163 = .ok (.iload 5, 2) := by decide +kernel
theorem dX12_settles_165 : decode cX12_settles 165 = .ok (.laload, 1) := by decide +kernel
theorem dX12_settles_166 : decode cX12_settles 166 = .ok (.lastore, 1) := by decide +kernel
theorem dX12_settles_167 : decode cX12_settles 167 = .ok (.aload_n 0, 1) := by decide +kernel
theorem dX12_settles_168 : decode cX12_settles 168 = .ok (.getfield 119, 3) := by decide +kernel
theorem dX12_settles_171 : decode cX12_settles 171 = .ok (.bipush 64, 2) := by decide +kernel
theorem dX12_settles_173 : decode cX12_settles 173 = .ok (.iload_n 2, 1) := by decide +kernel
theorem dX12_settles_174 : decode cX12_settles 174 = .ok (.imul, 1) := by decide +kernel
theorem dX12_settles_175 : decode cX12_settles 175 = .ok (.iload 5, 2) := by decide +kernel
theorem dX12_settles_177 : decode cX12_settles 177 = .ok (.iadd, 1) := by decide +kernel
theorem dX12_settles_178 : decode cX12_settles 178 = .ok (.dup2, 1) := by decide +kernel
theorem dX12_settles_179 : decode cX12_settles 179 = .ok (.laload, 1) := by decide +kernel
theorem dX12_settles_180 : decode cX12_settles 180 = .ok (.aload_n 0, 1) := by decide +kernel
theorem dX12_settles_181 : decode cX12_settles 181 = .ok (.getfield 123, 3) := by decide +kernel
theorem dX12_settles_184 : decode cX12_settles 184 = .ok (.iload 5, 2) := by decide +kernel
theorem dX12_settles_186 : decode cX12_settles 186 = .ok (.laload, 1) := by decide +kernel
theorem dX12_settles_187 : decode cX12_settles 187 = .ok (.ladd, 1) := by decide +kernel
theorem dX12_settles_188 : decode cX12_settles 188 = .ok (.lastore, 1) := by decide +kernel
theorem dX12_settles_189 : decode cX12_settles 189 = .ok (.iinc 5 1, 3) := by decide +kernel
theorem dX12_settles_192 : decode cX12_settles 192 = .ok (.goto (-45), 3) := by decide +kernel
theorem dX12_settles_195 : decode cX12_settles 195 = .ok (.iinc 4 1, 3) := by decide +kernel
theorem dX12_settles_198 : decode cX12_settles 198 = .ok (.goto (-161), 3) := by decide +kernel
theorem dX12_settles_201 : decode cX12_settles 201 = .ok (.return_, 1) := by decide +kernel
