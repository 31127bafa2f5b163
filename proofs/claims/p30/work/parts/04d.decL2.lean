theorem dL_told_0 : decode cL_told 0 = .ok (.bipush 14, 2) := by decide +kernel
theorem dL_told_2 : decode cL_told 2 = .ok (.newarray .int, 2) := by decide +kernel
theorem dL_told_4 : decode cL_told 4 = .ok (.astore 5, 2) := by decide +kernel
theorem dL_told_6 : decode cL_told 6 = .ok (.bipush 14, 2) := by decide +kernel
theorem dL_told_8 : decode cL_told 8 = .ok (.newarray .int, 2) := by decide +kernel
theorem dL_told_10 : decode cL_told 10 = .ok (.astore 6, 2) := by decide +kernel
theorem dL_told_12 : decode cL_told 12 = .ok (.bipush 6, 2) := by decide +kernel
theorem dL_told_14 : decode cL_told 14 = .ok (.newarray .int, 2) := by decide +kernel
theorem dL_told_16 : decode cL_told 16 = .ok (.astore 7, 2) := by decide +kernel
theorem dL_told_18 : decode cL_told 18 = .ok (.aload_n 1, 1) := by decide +kernel
theorem dL_told_19 : decode cL_told 19 = .ok (.aload_n 2, 1) := by decide +kernel
theorem dL_told_20 : decode cL_told 20 = .ok (.aload_n 3, 1) := by decide +kernel
theorem dL_told_21 : decode cL_told 21 = .ok (.aload 4, 2) := by decide +kernel
theorem dL_told_23 : decode cL_told 23 = .ok (.aload 5, 2) := by decide +kernel
theorem dL_told_25 : decode cL_told 25 = .ok (.aload 6, 2) := by decide +kernel
theorem dL_told_27 : decode cL_told 27 = .ok (.aload 7, 2) := by decide +kernel
theorem dL_told_29 : decode cL_told 29 = .ok (.invokestatic 17, 3) := by decide +kernel
theorem dL_told_32 : decode cL_told 32 = .ok (.iconst 0, 1) := by decide +kernel
theorem dL_told_33 : decode cL_told 33 = .ok (.istore 8, 2) := by decide +kernel
theorem dL_told_35 : decode cL_told 35 = .ok (.iconst 0, 1) := by decide +kernel
theorem dL_told_36 : decode cL_told 36 = .ok (.istore 9, 2) := by decide +kernel
theorem dL_told_38 : decode cL_told 38 = .ok (.iload 9, 2) := by decide +kernel
theorem dL_told_40 : decode cL_told 40 = .ok (.aload 4, 2) := by decide +kernel
theorem dL_told_42 : decode cL_told 42 = .ok (.iconst 0, 1) := by decide +kernel
theorem dL_told_43 : decode cL_told 43 = .ok (.iaload, 1) := by decide +kernel
theorem dL_told_44 : decode cL_told 44 = .ok (.if_icmp .ge 535, 3) := by decide +kernel
theorem dL_told_47 : decode cL_told 47 = .ok (.iconst 0, 1) := by decide +kernel
theorem dL_told_48 : decode cL_told 48 = .ok (.istore 10, 2) := by decide +kernel
theorem dL_told_50 : decode cL_told 50 = .ok (.iconst 0, 1) := by decide +kernel
theorem dL_told_51 : decode cL_told 51 = .ok (.istore 11, 2) := by decide +kernel
theorem dL_told_53 : decode cL_told 53 = .ok (.iconst 0, 1) := by decide +kernel
theorem dL_told_54 : decode cL_told 54 = .ok (.istore 12, 2) := by decide +kernel
theorem dL_told_56 : decode cL_told 56 = .ok (.iload 9, 2) := by decide +kernel
theorem dL_told_58 : decode cL_told 58 = .ok (.iconst 1, 1) := by decide +kernel
theorem dL_told_59 : decode cL_told 59 = .ok (.iadd, 1) := by decide +kernel
theorem dL_told_60 : decode cL_told 60 = .ok (.istore 13, 2) := by decide +kernel
theorem dL_told_62 : decode cL_told 62 = .ok (.iload 13, 2) := by decide +kernel
theorem dL_told_64 : decode cL_told 64 = .ok (.aload 4, 2) := by decide +kernel
theorem dL_told_66 : decode cL_told 66 = .ok (.iconst 0, 1) := by decide +kernel
theorem dL_told_67 : decode cL_told 67 = .ok (.iaload, 1) := by decide +kernel
theorem dL_told_68 : decode cL_told 68 = .ok (.if_icmp .ge 49, 3) := by decide +kernel
theorem dL_told_71 : decode cL_told 71 = .ok (.iload 13, 2) := by decide +kernel
theorem dL_told_73 : decode cL_told 73 = .ok (.istore 14, 2) := by decide +kernel
theorem dL_told_75 : decode cL_told 75 = .ok (.iload 14, 2) := by decide +kernel
theorem dL_told_77 : decode cL_told 77 = .ok (.iload 9, 2) := by decide +kernel
theorem dL_told_79 : decode cL_told 79 = .ok (.if_icmp .le 15, 3) := by decide +kernel
theorem dL_told_82 : decode cL_told 82 = .ok (.aload_n 1, 1) := by decide +kernel
theorem dL_told_83 : decode cL_told 83 = .ok (.bipush 8, 2) := by decide +kernel
theorem dL_told_85 : decode cL_told 85 = .ok (.iload 14, 2) := by decide +kernel
theorem dL_told_87 : decode cL_told 87 = .ok (.imul, 1) := by decide +kernel
theorem dL_told_88 : decode cL_told 88 = .ok (.iaload, 1) := by decide +kernel
theorem dL_told_89 : decode cL_told 89 = .ok (.istore 14, 2) := by decide +kernel
theorem dL_told_91 : decode cL_told 91 = .ok (.goto (-16), 3) := by decide +kernel
theorem dL_told_94 : decode cL_told 94 = .ok (.iload 10, 2) := by decide +kernel
theorem dL_told_96 : decode cL_told 96 = .ok (.iload 14, 2) := by decide +kernel
theorem dL_told_98 : decode cL_told 98 = .ok (.iload 9, 2) := by decide +kernel
theorem dL_told_100 : decode cL_told 100 = .ok (.if_icmp .ne 7, 3) := by decide +kernel
theorem dL_told_103 : decode cL_told 103 = .ok (.iconst 1, 1) := by decide +kernel
theorem dL_told_104 : decode cL_told 104 = .ok (.goto 4, 3) := by decide +kernel
theorem dL_told_107 : decode cL_told 107 = .ok (.iconst 0, 1) := by decide +kernel
theorem dL_told_108 : decode cL_told 108 = .ok (.iadd, 1) := by decide +kernel
theorem dL_told_109 : decode cL_told 109 = .ok (.istore 10, 2) := by decide +kernel
theorem dL_told_111 : decode cL_told 111 = .ok (.iinc 13 1, 3) := by decide +kernel
theorem dL_told_114 : decode cL_told 114 = .ok (.goto (-52), 3) := by decide +kernel
theorem dL_told_117 : decode cL_told 117 = .ok (.iconst 0, 1) := by decide +kernel
theorem dL_told_118 : decode cL_told 118 = .ok (.istore 13, 2) := by decide +kernel
theorem dL_told_120 : decode cL_told 120 = .ok (.iload 13, 2) := by decide +kernel
theorem dL_told_122 : decode cL_told 122 = .ok (.aload 4, 2) := by decide +kernel
theorem dL_told_124 : decode cL_told 124 = .ok (.iconst 1, 1) := by decide +kernel
theorem dL_told_125 : decode cL_told 125 = .ok (.iaload, 1) := by decide +kernel
theorem dL_told_126 : decode cL_told 126 = .ok (.if_icmp .ge 58, 3) := by decide +kernel
theorem dL_told_129 : decode cL_told 129 = .ok (.aload_n 2, 1) := by decide +kernel
theorem dL_told_130 : decode cL_told 130 = .ok (.iconst 3, 1) := by decide +kernel
theorem dL_told_131 : decode cL_told 131 = .ok (.iload 13, 2) := by decide +kernel
theorem dL_told_133 : decode cL_told 133 = .ok (.imul, 1) := by decide +kernel
theorem dL_told_134 : decode cL_told 134 = .ok (.iaload, 1) := by decide +kernel
theorem dL_told_135 : decode cL_told 135 = .ok (.iload 9, 2) := by decide +kernel
theorem dL_told_137 : decode cL_told 137 = .ok (.if_icmp .eq 6, 3) := by decide +kernel
theorem dL_told_140 : decode cL_told 140 = .ok (.goto 38, 3) := by decide +kernel
theorem dL_told_143 : decode cL_told 143 = .ok (.iload 12, 2) := by decide +kernel
theorem dL_told_145 : decode cL_told 145 = .ok (.aload_n 2, 1) := by decide +kernel
theorem dL_told_146 : decode cL_told 146 = .ok (.iconst 3, 1) := by decide +kernel
theorem dL_told_147 : decode cL_told 147 = .ok (.iload 13, 2) := by decide +kernel
theorem dL_told_149 : decode cL_told 149 = .ok (.imul, 1) := by decide +kernel
theorem dL_told_150 : decode cL_told 150 = .ok (.iconst 1, 1) := by decide +kernel
theorem dL_told_151 : decode cL_told 151 = .ok (.iadd, 1) := by decide +kernel
theorem dL_told_152 : decode cL_told 152 = .ok (.iaload, 1) := by decide +kernel
theorem dL_told_153 : decode cL_told 153 = .ok (.iadd, 1) := by decide +kernel
theorem dL_told_154 : decode cL_told 154 = .ok (.istore 12, 2) := by decide +kernel
theorem dL_told_156 : decode cL_told 156 = .ok (.iload 11, 2) := by decide +kernel
theorem dL_told_158 : decode cL_told 158 = .ok (.iload 13, 2) := by decide +kernel
theorem dL_told_160 : decode cL_told 160 = .ok (.aload_n 1, 1) := by decide +kernel
theorem dL_told_161 : decode cL_told 161 = .ok (.aload_n 2, 1) := by decide +kernel
theorem dL_told_162 : decode cL_told 162 = .ok (.aload 5, 2) := by decide +kernel
theorem dL_told_164 : decode cL_told 164 = .ok (.invokestatic 8, 3) := by decide +kernel
theorem dL_told_167 : decode cL_told 167 = .ok (.ifCond .ne 7, 3) := by decide +kernel
theorem dL_told_170 : decode cL_told 170 = .ok (.iconst 1, 1) := by decide +kernel
theorem dL_told_171 : decode cL_told 171 = .ok (.goto 4, 3) := by decide +kernel
theorem dL_told_174 : decode cL_told 174 = .ok (.iconst 0, 1) := by decide +kernel
theorem dL_told_175 : decode cL_told 175 = .ok (.iadd, 1) := by decide +kernel
theorem dL_told_176 : decode cL_told 176 = .ok (.istore 11, 2) := by decide +kernel
theorem dL_told_178 : decode cL_told 178 = .ok (.iinc 13 1, 3) := by decide +kernel
theorem dL_told_181 : decode cL_told 181 = .ok (.goto (-61), 3) := by decide +kernel
theorem dL_told_184 : decode cL_told 184 = .ok (.iconst 0, 1) := by decide +kernel
theorem dL_told_185 : decode cL_told 185 = .ok (.istore 13, 2) := by decide +kernel
theorem dL_told_187 : decode cL_told 187 = .ok (.iload 13, 2) := by decide +kernel
theorem dL_told_189 : decode cL_told 189 = .ok (.iconst 3, 1) := by decide +kernel
theorem dL_told_190 : decode cL_told 190 = .ok (.if_icmp .ge 41, 3) := by decide +kernel
theorem dL_told_193 : decode cL_told 193 = .ok (.aload_n 0, 1) := by decide +kernel
theorem dL_told_194 : decode cL_told 194 = .ok (.iload 9, 2) := by decide +kernel
theorem dL_told_196 : decode cL_told 196 = .ok (.iload 13, 2) := by decide +kernel
theorem dL_told_198 : decode cL_told 198 = .ok (.invokevirtual 21, 3) := by decide +kernel
theorem dL_told_201 : decode cL_told 201 = .ok (.iload 9, 2) := by decide +kernel
theorem dL_told_203 : decode cL_told 203 = .ok (.ifCond .ne 7, 3) := by decide +kernel
theorem dL_told_206 : decode cL_told 206 = .ok (.iconst (-1), 1) := by decide +kernel
theorem dL_told_207 : decode cL_told 207 = .ok (.goto 13, 3) := by decide +kernel
theorem dL_told_210 : decode cL_told 210 = .ok (.aload_n 1, 1) := by decide +kernel
theorem dL_told_211 : decode cL_told 211 = .ok (.bipush 8, 2) := by decide +kernel
theorem dL_told_213 : decode cL_told 213 = .ok (.iload 9, 2) := by decide +kernel
theorem dL_told_215 : decode cL_told 215 = .ok (.imul, 1) := by decide +kernel
theorem dL_told_216 : decode cL_told 216 = .ok (.iload 13, 2) := by decide +kernel
theorem dL_told_218 : decode cL_told 218 = .ok (.iadd, 1) := by decide +kernel
theorem dL_told_219 : decode cL_told 219 = .ok (.iaload, 1) := by decide +kernel
theorem dL_told_220 : decode cL_told 220 = .ok (.if_icmp .eq 5, 3) := by decide +kernel
theorem dL_told_223 : decode cL_told 223 = .ok (.iconst 0, 1) := by decide +kernel
theorem dL_told_224 : decode cL_told 224 = .ok (.ireturn, 1) := by decide +kernel
theorem dL_told_225 : decode cL_told 225 = .ok (.iinc 13 1, 3) := by decide +kernel
theorem dL_told_228 : decode cL_told 228 = .ok (.goto (-41), 3) := by decide +kernel
theorem dL_told_231 : decode cL_told 231 = .ok (.aload_n 0, 1) := by decide +kernel
theorem dL_told_232 : decode cL_told 232 = .ok (.iload 9, 2) := by decide +kernel
theorem dL_told_234 : decode cL_told 234 = .ok (.iconst 3, 1) := by decide +kernel
theorem dL_told_235 : decode cL_told 235 = .ok (.invokevirtual 21, 3) := by decide +kernel
theorem dL_told_238 : decode cL_told 238 = .ok (.aload_n 1, 1) := by decide +kernel
theorem dL_told_239 : decode cL_told 239 = .ok (.bipush 8, 2) := by decide +kernel
theorem dL_told_241 : decode cL_told 241 = .ok (.iload 9, 2) := by decide +kernel
theorem dL_told_243 : decode cL_told 243 = .ok (.imul, 1) := by decide +kernel
theorem dL_told_244 : decode cL_told 244 = .ok (.bipush 7, 2) := by decide +kernel
theorem dL_told_246 : decode cL_told 246 = .ok (.iadd, 1) := by decide +kernel
theorem dL_told_247 : decode cL_told 247 = .ok (.iaload, 1) := by decide +kernel
theorem dL_told_248 : decode cL_told 248 = .ok (.if_icmp .ne 40, 3) := by decide +kernel
theorem dL_told_251 : decode cL_told 251 = .ok (.aload_n 0, 1) := by decide +kernel
theorem dL_told_252 : decode cL_told 252 = .ok (.iload 9, 2) := by decide +kernel
theorem dL_told_254 : decode cL_told 254 = .ok (.iconst 4, 1) := by decide +kernel
theorem dL_told_255 : decode cL_told 255 = .ok (.invokevirtual 21, 3) := by decide +kernel
theorem dL_told_258 : decode cL_told 258 = .ok (.iload 10, 2) := by decide +kernel
theorem dL_told_260 : decode cL_told 260 = .ok (.if_icmp .ne 28, 3) := by decide +kernel
theorem dL_told_263 : decode cL_told 263 = .ok (.aload_n 0, 1) := by decide +kernel
theorem dL_told_264 : decode cL_told 264 = .ok (.iload 9, 2) := by decide +kernel
theorem dL_told_266 : decode cL_told 266 = .ok (.iconst 5, 1) := by decide +kernel
theorem dL_told_267 : decode cL_told 267 = .ok (.invokevirtual 21, 3) := by decide +kernel
theorem dL_told_270 : decode cL_told 270 = .ok (.iload 11, 2) := by decide +kernel
theorem dL_told_272 : decode cL_told 272 = .ok (.if_icmp .ne 16, 3) := by decide +kernel
theorem dL_told_275 : decode cL_told 275 = .ok (.aload_n 0, 1) := by decide +kernel
theorem dL_told_276 : decode cL_told 276 = .ok (.iload 9, 2) := by decide +kernel
theorem dL_told_278 : decode cL_told 278 = .ok (.bipush 6, 2) := by decide +kernel
theorem dL_told_280 : decode cL_told 280 = .ok (.invokevirtual 21, 3) := by decide +kernel
theorem dL_told_283 : decode cL_told 283 = .ok (.iload 12, 2) := by decide +kernel
theorem dL_told_285 : decode cL_told 285 = .ok (.if_icmp .eq 5, 3) := by decide +kernel
theorem dL_told_288 : decode cL_told 288 = .ok (.iconst 0, 1) := by decide +kernel
theorem dL_told_289 : decode cL_told 289 = .ok (.ireturn, 1) := by decide +kernel
theorem dL_told_290 : decode cL_told 290 = .ok (.iconst 0, 1) := by decide +kernel
theorem dL_told_291 : decode cL_told 291 = .ok (.istore 13, 2) := by decide +kernel
theorem dL_told_293 : decode cL_told 293 = .ok (.iload 13, 2) := by decide +kernel
theorem dL_told_295 : decode cL_told 295 = .ok (.iconst 2, 1) := by decide +kernel
theorem dL_told_296 : decode cL_told 296 = .ok (.if_icmp .ge 277, 3) := by decide +kernel
theorem dL_told_299 : decode cL_told 299 = .ok (.iconst 0, 1) := by decide +kernel
theorem dL_told_300 : decode cL_told 300 = .ok (.istore 14, 2) := by decide +kernel
theorem dL_told_302 : decode cL_told 302 = .ok (.iconst 0, 1) := by decide +kernel
theorem dL_told_303 : decode cL_told 303 = .ok (.istore 15, 2) := by decide +kernel
theorem dL_told_305 : decode cL_told 305 = .ok (.iload 15, 2) := by decide +kernel
theorem dL_told_307 : decode cL_told 307 = .ok (.aload 4, 2) := by decide +kernel
theorem dL_told_309 : decode cL_told 309 = .ok (.iconst 2, 1) := by decide +kernel
theorem dL_told_310 : decode cL_told 310 = .ok (.iaload, 1) := by decide +kernel
theorem dL_told_311 : decode cL_told 311 = .ok (.if_icmp .ge 50, 3) := by decide +kernel
theorem dL_told_314 : decode cL_told 314 = .ok (.iload 14, 2) := by decide +kernel
theorem dL_told_316 : decode cL_told 316 = .ok (.aload_n 3, 1) := by decide +kernel
theorem dL_told_317 : decode cL_told 317 = .ok (.iconst 3, 1) := by decide +kernel
theorem dL_told_318 : decode cL_told 318 = .ok (.iload 15, 2) := by decide +kernel
theorem dL_told_320 : decode cL_told 320 = .ok (.imul, 1) := by decide +kernel
theorem dL_told_321 : decode cL_told 321 = .ok (.iaload, 1) := by decide +kernel
theorem dL_told_322 : decode cL_told 322 = .ok (.iload 9, 2) := by decide +kernel
theorem dL_told_324 : decode cL_told 324 = .ok (.if_icmp .ne 27, 3) := by decide +kernel
theorem dL_told_327 : decode cL_told 327 = .ok (.aload_n 3, 1) := by decide +kernel
theorem dL_told_328 : decode cL_told 328 = .ok (.iconst 3, 1) := by decide +kernel
theorem dL_told_329 : decode cL_told 329 = .ok (.iload 15, 2) := by decide +kernel
theorem dL_told_331 : decode cL_told 331 = .ok (.imul, 1) := by decide +kernel
theorem dL_told_332 : decode cL_told 332 = .ok (.iconst 1, 1) := by decide +kernel
theorem dL_told_333 : decode cL_told 333 = .ok (.iadd, 1) := by decide +kernel
theorem dL_told_334 : decode cL_told 334 = .ok (.iaload, 1) := by decide +kernel
theorem dL_told_335 : decode cL_told 335 = .ok (.iload 13, 2) := by decide +kernel
theorem dL_told_337 : decode cL_told 337 = .ok (.if_icmp .ne 14, 3) := by decide +kernel
theorem dL_told_340 : decode cL_told 340 = .ok (.aload_n 3, 1) := by decide +kernel
theorem dL_told_341 : decode cL_told 341 = .ok (.iconst 3, 1) := by decide +kernel
theorem dL_told_342 : decode cL_told 342 = .ok (.iload 15, 2) := by decide +kernel
theorem dL_told_344 : decode cL_told 344 = .ok (.imul, 1) := by decide +kernel
theorem dL_told_345 : decode cL_told 345 = .ok (.iconst 2, 1) := by decide +kernel
theorem dL_told_346 : decode cL_told 346 = .ok (.iadd, 1) := by decide +kernel
theorem dL_told_347 : decode cL_told 347 = .ok (.iaload, 1) := by decide +kernel
theorem dL_told_348 : decode cL_told 348 = .ok (.goto 4, 3) := by decide +kernel
theorem dL_told_351 : decode cL_told 351 = .ok (.iconst 0, 1) := by decide +kernel
theorem dL_told_352 : decode cL_told 352 = .ok (.iadd, 1) := by decide +kernel
theorem dL_told_353 : decode cL_told 353 = .ok (.istore 14, 2) := by decide +kernel
theorem dL_told_355 : decode cL_told 355 = .ok (.iinc 15 1, 3) := by decide +kernel
theorem dL_told_358 : decode cL_told 358 = .ok (.goto (-53), 3) := by decide +kernel
theorem dL_told_361 : decode cL_told 361 = .ok (.aload 5, 2) := by decide +kernel
theorem dL_told_363 : decode cL_told 363 = .ok (.iconst 2, 1) := by decide +kernel
theorem dL_told_364 : decode cL_told 364 = .ok (.iload 9, 2) := by decide +kernel
theorem dL_told_366 : decode cL_told 366 = .ok (.imul, 1) := by decide +kernel
theorem dL_told_367 : decode cL_told 367 = .ok (.iload 13, 2) := by decide +kernel
theorem dL_told_369 : decode cL_told 369 = .ok (.iadd, 1) := by decide +kernel
theorem dL_told_370 : decode cL_told 370 = .ok (.iaload, 1) := by decide +kernel
theorem dL_told_371 : decode cL_told 371 = .ok (.iconst 1, 1) := by decide +kernel
theorem dL_told_372 : decode cL_told 372 = .ok (.if_icmp .le 7, 3) := by decide +kernel
theorem dL_told_375 : decode cL_told 375 = .ok (.iconst 1, 1) := by decide +kernel
theorem dL_told_376 : decode cL_told 376 = .ok (.goto 4, 3) := by decide +kernel
theorem dL_told_379 : decode cL_told 379 = .ok (.iconst 0, 1) := by decide +kernel
theorem dL_told_380 : decode cL_told 380 = .ok (.istore 15, 2) := by decide +kernel
theorem dL_told_382 : decode cL_told 382 = .ok (.iload 8, 2) := by decide +kernel
theorem dL_told_384 : decode cL_told 384 = .ok (.iload 9, 2) := by decide +kernel
theorem dL_told_386 : decode cL_told 386 = .ok (.ifCond .le 18, 3) := by decide +kernel
theorem dL_told_389 : decode cL_told 389 = .ok (.aload_n 1, 1) := by decide +kernel
theorem dL_told_390 : decode cL_told 390 = .ok (.bipush 8, 2) := by decide +kernel
theorem dL_told_392 : decode cL_told 392 = .ok (.iload 9, 2) := by decide +kernel
theorem dL_told_394 : decode cL_told 394 = .ok (.imul, 1) := by decide +kernel
theorem dL_told_395 : decode cL_told 395 = .ok (.iconst 5, 1) := by decide +kernel
theorem dL_told_396 : decode cL_told 396 = .ok (.iadd, 1) := by decide +kernel
theorem dL_told_397 : decode cL_told 397 = .ok (.iload 13, 2) := by decide +kernel
theorem dL_told_399 : decode cL_told 399 = .ok (.iadd, 1) := by decide +kernel
theorem dL_told_400 : decode cL_told 400 = .ok (.iaload, 1) := by decide +kernel
theorem dL_told_401 : decode cL_told 401 = .ok (.goto 4, 3) := by decide +kernel
theorem dL_told_404 : decode cL_told 404 = .ok (.iconst 0, 1) := by decide +kernel
theorem dL_told_405 : decode cL_told 405 = .ok (.iadd, 1) := by decide +kernel
theorem dL_told_406 : decode cL_told 406 = .ok (.istore 8, 2) := by decide +kernel
theorem dL_told_408 : decode cL_told 408 = .ok (.aload_n 0, 1) := by decide +kernel
theorem dL_told_409 : decode cL_told 409 = .ok (.iload 9, 2) := by decide +kernel
theorem dL_told_411 : decode cL_told 411 = .ok (.iload 13, 2) := by decide +kernel
theorem dL_told_413 : decode cL_told 413 = .ok (.iconst 0, 1) := by decide +kernel
theorem dL_told_414 : decode cL_told 414 = .ok (.invokevirtual 27, 3) := by decide +kernel
theorem dL_told_417 : decode cL_told 417 = .ok (.aload 5, 2) := by decide +kernel
theorem dL_told_419 : decode cL_told 419 = .ok (.iconst 2, 1) := by decide +kernel
theorem dL_told_420 : decode cL_told 420 = .ok (.iload 9, 2) := by decide +kernel
theorem dL_told_422 : decode cL_told 422 = .ok (.imul, 1) := by decide +kernel
theorem dL_told_423 : decode cL_told 423 = .ok (.iload 13, 2) := by decide +kernel
theorem dL_told_425 : decode cL_told 425 = .ok (.iadd, 1) := by decide +kernel
theorem dL_told_426 : decode cL_told 426 = .ok (.iaload, 1) := by decide +kernel
theorem dL_told_427 : decode cL_told 427 = .ok (.iconst 2, 1) := by decide +kernel
theorem dL_told_428 : decode cL_told 428 = .ok (.irem, 1) := by decide +kernel
theorem dL_told_429 : decode cL_told 429 = .ok (.if_icmp .ne 136, 3) := by decide +kernel
theorem dL_told_432 : decode cL_told 432 = .ok (.aload_n 0, 1) := by decide +kernel
theorem dL_told_433 : decode cL_told 433 = .ok (.iload 9, 2) := by decide +kernel
theorem dL_told_435 : decode cL_told 435 = .ok (.iload 13, 2) := by decide +kernel
theorem dL_told_437 : decode cL_told 437 = .ok (.iconst 1, 1) := by decide +kernel
theorem dL_told_438 : decode cL_told 438 = .ok (.invokevirtual 27, 3) := by decide +kernel
theorem dL_told_441 : decode cL_told 441 = .ok (.iload 15, 2) := by decide +kernel
theorem dL_told_443 : decode cL_told 443 = .ok (.ifCond .eq 7, 3) := by decide +kernel
theorem dL_told_446 : decode cL_told 446 = .ok (.iconst 1, 1) := by decide +kernel
theorem dL_told_447 : decode cL_told 447 = .ok (.goto 4, 3) := by decide +kernel
theorem dL_told_450 : decode cL_told 450 = .ok (.iconst 0, 1) := by decide +kernel
theorem dL_told_451 : decode cL_told 451 = .ok (.if_icmp .ne 114, 3) := by decide +kernel
theorem dL_told_454 : decode cL_told 454 = .ok (.aload_n 0, 1) := by decide +kernel
theorem dL_told_455 : decode cL_told 455 = .ok (.iload 9, 2) := by decide +kernel
theorem dL_told_457 : decode cL_told 457 = .ok (.iload 13, 2) := by decide +kernel
theorem dL_told_459 : decode cL_told 459 = .ok (.iconst 2, 1) := by decide +kernel
theorem dL_told_460 : decode cL_told 460 = .ok (.invokevirtual 27, 3) := by decide +kernel
theorem dL_told_463 : decode cL_told 463 = .ok (.iload 15, 2) := by decide +kernel
theorem dL_told_465 : decode cL_told 465 = .ok (.ifCond .eq 16, 3) := by decide +kernel
theorem dL_told_468 : decode cL_told 468 = .ok (.aload 6, 2) := by decide +kernel
theorem dL_told_470 : decode cL_told 470 = .ok (.iconst 2, 1) := by decide +kernel
theorem dL_told_471 : decode cL_told 471 = .ok (.iload 9, 2) := by decide +kernel
theorem dL_told_473 : decode cL_told 473 = .ok (.imul, 1) := by decide +kernel
theorem dL_told_474 : decode cL_told 474 = .ok (.iload 13, 2) := by decide +kernel
theorem dL_told_476 : decode cL_told 476 = .ok (.iadd, 1) := by decide +kernel
theorem dL_told_477 : decode cL_told 477 = .ok (.iaload, 1) := by decide +kernel
theorem dL_told_478 : decode cL_told 478 = .ok (.goto 4, 3) := by decide +kernel
theorem dL_told_481 : decode cL_told 481 = .ok (.iconst 0, 1) := by decide +kernel
theorem dL_told_482 : decode cL_told 482 = .ok (.if_icmp .ne 83, 3) := by decide +kernel
theorem dL_told_485 : decode cL_told 485 = .ok (.aload_n 0, 1) := by decide +kernel
theorem dL_told_486 : decode cL_told 486 = .ok (.iload 9, 2) := by decide +kernel
theorem dL_told_488 : decode cL_told 488 = .ok (.iload 13, 2) := by decide +kernel
theorem dL_told_490 : decode cL_told 490 = .ok (.iconst 3, 1) := by decide +kernel
theorem dL_told_491 : decode cL_told 491 = .ok (.invokevirtual 27, 3) := by decide +kernel
theorem dL_told_494 : decode cL_told 494 = .ok (.iload 9, 2) := by decide +kernel
theorem dL_told_496 : decode cL_told 496 = .ok (.ifCond .ne 7, 3) := by decide +kernel
theorem dL_told_499 : decode cL_told 499 = .ok (.iconst (-1), 1) := by decide +kernel
theorem dL_told_500 : decode cL_told 500 = .ok (.goto 15, 3) := by decide +kernel
theorem dL_told_503 : decode cL_told 503 = .ok (.aload_n 1, 1) := by decide +kernel
theorem dL_told_504 : decode cL_told 504 = .ok (.bipush 8, 2) := by decide +kernel
theorem dL_told_506 : decode cL_told 506 = .ok (.iload 9, 2) := by decide +kernel
theorem dL_told_508 : decode cL_told 508 = .ok (.imul, 1) := by decide +kernel
theorem dL_told_509 : decode cL_told 509 = .ok (.iconst 3, 1) := by decide +kernel
theorem dL_told_510 : decode cL_told 510 = .ok (.iadd, 1) := by decide +kernel
theorem dL_told_511 : decode cL_told 511 = .ok (.iload 13, 2) := by decide +kernel
theorem dL_told_513 : decode cL_told 513 = .ok (.iadd, 1) := by decide +kernel
theorem dL_told_514 : decode cL_told 514 = .ok (.iaload, 1) := by decide +kernel
theorem dL_told_515 : decode cL_told 515 = .ok (.if_icmp .ne 50, 3) := by decide +kernel
theorem dL_told_518 : decode cL_told 518 = .ok (.aload_n 0, 1) := by decide +kernel
theorem dL_told_519 : decode cL_told 519 = .ok (.iload 9, 2) := by decide +kernel
theorem dL_told_521 : decode cL_told 521 = .ok (.iload 13, 2) := by decide +kernel
theorem dL_told_523 : decode cL_told 523 = .ok (.iconst 4, 1) := by decide +kernel
theorem dL_told_524 : decode cL_told 524 = .ok (.invokevirtual 27, 3) := by decide +kernel
theorem dL_told_527 : decode cL_told 527 = .ok (.iload 9, 2) := by decide +kernel
theorem dL_told_529 : decode cL_told 529 = .ok (.ifCond .ne 7, 3) := by decide +kernel
theorem dL_told_532 : decode cL_told 532 = .ok (.iconst (-1), 1) := by decide +kernel
theorem dL_told_533 : decode cL_told 533 = .ok (.goto 15, 3) := by decide +kernel
theorem dL_told_536 : decode cL_told 536 = .ok (.aload_n 1, 1) := by decide +kernel
theorem dL_told_537 : decode cL_told 537 = .ok (.bipush 8, 2) := by decide +kernel
theorem dL_told_539 : decode cL_told 539 = .ok (.iload 9, 2) := by decide +kernel
theorem dL_told_541 : decode cL_told 541 = .ok (.imul, 1) := by decide +kernel
theorem dL_told_542 : decode cL_told 542 = .ok (.iconst 5, 1) := by decide +kernel
theorem dL_told_543 : decode cL_told 543 = .ok (.iadd, 1) := by decide +kernel
theorem dL_told_544 : decode cL_told 544 = .ok (.iload 13, 2) := by decide +kernel
theorem dL_told_546 : decode cL_told 546 = .ok (.iadd, 1) := by decide +kernel
theorem dL_told_547 : decode cL_told 547 = .ok (.iaload, 1) := by decide +kernel
theorem dL_told_548 : decode cL_told 548 = .ok (.if_icmp .ne 17, 3) := by decide +kernel
theorem dL_told_551 : decode cL_told 551 = .ok (.aload_n 0, 1) := by decide +kernel
theorem dL_told_552 : decode cL_told 552 = .ok (.iload 9, 2) := by decide +kernel
theorem dL_told_554 : decode cL_told 554 = .ok (.iload 13, 2) := by decide +kernel
theorem dL_told_556 : decode cL_told 556 = .ok (.iconst 5, 1) := by decide +kernel
theorem dL_told_557 : decode cL_told 557 = .ok (.invokevirtual 27, 3) := by decide +kernel
theorem dL_told_560 : decode cL_told 560 = .ok (.iload 14, 2) := by decide +kernel
theorem dL_told_562 : decode cL_told 562 = .ok (.if_icmp .eq 5, 3) := by decide +kernel
theorem dL_told_565 : decode cL_told 565 = .ok (.iconst 0, 1) := by decide +kernel
theorem dL_told_566 : decode cL_told 566 = .ok (.ireturn, 1) := by decide +kernel
theorem dL_told_567 : decode cL_told 567 = .ok (.iinc 13 1, 3) := by decide +kernel
theorem dL_told_570 : decode cL_told 570 = .ok (.goto (-277), 3) := by decide +kernel
theorem dL_told_573 : decode cL_told 573 = .ok (.iinc 9 1, 3) := by decide +kernel
theorem dL_told_576 : decode cL_told 576 = .ok (.goto (-538), 3) := by decide +kernel
theorem dL_told_579 : decode cL_told 579 = .ok (.iconst 0, 1) := by decide +kernel
theorem dL_told_580 : decode cL_told 580 = .ok (.istore 9, 2) := by decide +kernel
theorem dL_told_582 : decode cL_told 582 = .ok (.iload 9, 2) := by decide +kernel
theorem dL_told_584 : decode cL_told 584 = .ok (.aload 4, 2) := by decide +kernel
theorem dL_told_586 : decode cL_told 586 = .ok (.iconst 1, 1) := by decide +kernel
theorem dL_told_587 : decode cL_told 587 = .ok (.iaload, 1) := by decide +kernel
theorem dL_told_588 : decode cL_told 588 = .ok (.if_icmp .ge 67, 3) := by decide +kernel
theorem dL_told_591 : decode cL_told 591 = .ok (.iconst 0, 1) := by decide +kernel
theorem dL_told_592 : decode cL_told 592 = .ok (.istore 10, 2) := by decide +kernel
theorem dL_told_594 : decode cL_told 594 = .ok (.iload 10, 2) := by decide +kernel
theorem dL_told_596 : decode cL_told 596 = .ok (.iconst 3, 1) := by decide +kernel
theorem dL_told_597 : decode cL_told 597 = .ok (.if_icmp .ge 31, 3) := by decide +kernel
theorem dL_told_600 : decode cL_told 600 = .ok (.aload_n 0, 1) := by decide +kernel
theorem dL_told_601 : decode cL_told 601 = .ok (.iload 9, 2) := by decide +kernel
theorem dL_told_603 : decode cL_told 603 = .ok (.iload 10, 2) := by decide +kernel
theorem dL_told_605 : decode cL_told 605 = .ok (.invokevirtual 31, 3) := by decide +kernel
theorem dL_told_608 : decode cL_told 608 = .ok (.aload_n 2, 1) := by decide +kernel
theorem dL_told_609 : decode cL_told 609 = .ok (.iconst 3, 1) := by decide +kernel
theorem dL_told_610 : decode cL_told 610 = .ok (.iload 9, 2) := by decide +kernel
theorem dL_told_612 : decode cL_told 612 = .ok (.imul, 1) := by decide +kernel
theorem dL_told_613 : decode cL_told 613 = .ok (.iload 10, 2) := by decide +kernel
theorem dL_told_615 : decode cL_told 615 = .ok (.iadd, 1) := by decide +kernel
theorem dL_told_616 : decode cL_told 616 = .ok (.iaload, 1) := by decide +kernel
theorem dL_told_617 : decode cL_told 617 = .ok (.if_icmp .eq 5, 3) := by decide +kernel
theorem dL_told_620 : decode cL_told 620 = .ok (.iconst 0, 1) := by decide +kernel
theorem dL_told_621 : decode cL_told 621 = .ok (.ireturn, 1) := by decide +kernel
theorem dL_told_622 : decode cL_told 622 = .ok (.iinc 10 1, 3) := by decide +kernel
theorem dL_told_625 : decode cL_told 625 = .ok (.goto (-31), 3) := by decide +kernel
theorem dL_told_628 : decode cL_told 628 = .ok (.aload_n 0, 1) := by decide +kernel
theorem dL_told_629 : decode cL_told 629 = .ok (.iload 9, 2) := by decide +kernel
theorem dL_told_631 : decode cL_told 631 = .ok (.iconst 3, 1) := by decide +kernel
theorem dL_told_632 : decode cL_told 632 = .ok (.invokevirtual 31, 3) := by decide +kernel
theorem dL_told_635 : decode cL_told 635 = .ok (.iload 9, 2) := by decide +kernel
theorem dL_told_637 : decode cL_told 637 = .ok (.aload_n 1, 1) := by decide +kernel
theorem dL_told_638 : decode cL_told 638 = .ok (.aload_n 2, 1) := by decide +kernel
theorem dL_told_639 : decode cL_told 639 = .ok (.aload 5, 2) := by decide +kernel
theorem dL_told_641 : decode cL_told 641 = .ok (.invokestatic 8, 3) := by decide +kernel
theorem dL_told_644 : decode cL_told 644 = .ok (.if_icmp .eq 5, 3) := by decide +kernel
theorem dL_told_647 : decode cL_told 647 = .ok (.iconst 0, 1) := by decide +kernel
theorem dL_told_648 : decode cL_told 648 = .ok (.ireturn, 1) := by decide +kernel
theorem dL_told_649 : decode cL_told 649 = .ok (.iinc 9 1, 3) := by decide +kernel
theorem dL_told_652 : decode cL_told 652 = .ok (.goto (-70), 3) := by decide +kernel
theorem dL_told_655 : decode cL_told 655 = .ok (.iconst 0, 1) := by decide +kernel
theorem dL_told_656 : decode cL_told 656 = .ok (.istore 9, 2) := by decide +kernel
theorem dL_told_658 : decode cL_told 658 = .ok (.iload 9, 2) := by decide +kernel
theorem dL_told_660 : decode cL_told 660 = .ok (.aload 4, 2) := by decide +kernel
theorem dL_told_662 : decode cL_told 662 = .ok (.iconst 2, 1) := by decide +kernel
theorem dL_told_663 : decode cL_told 663 = .ok (.iaload, 1) := by decide +kernel
theorem dL_told_664 : decode cL_told 664 = .ok (.if_icmp .ge 95, 3) := by decide +kernel
theorem dL_told_667 : decode cL_told 667 = .ok (.iconst 0, 1) := by decide +kernel
theorem dL_told_668 : decode cL_told 668 = .ok (.istore 10, 2) := by decide +kernel
theorem dL_told_670 : decode cL_told 670 = .ok (.iload 10, 2) := by decide +kernel
theorem dL_told_672 : decode cL_told 672 = .ok (.iconst 3, 1) := by decide +kernel
theorem dL_told_673 : decode cL_told 673 = .ok (.if_icmp .ge 31, 3) := by decide +kernel
theorem dL_told_676 : decode cL_told 676 = .ok (.aload_n 0, 1) := by decide +kernel
theorem dL_told_677 : decode cL_told 677 = .ok (.iload 9, 2) := by decide +kernel
theorem dL_told_679 : decode cL_told 679 = .ok (.iload 10, 2) := by decide +kernel
theorem dL_told_681 : decode cL_told 681 = .ok (.invokevirtual 34, 3) := by decide +kernel
theorem dL_told_684 : decode cL_told 684 = .ok (.aload_n 3, 1) := by decide +kernel
theorem dL_told_685 : decode cL_told 685 = .ok (.iconst 3, 1) := by decide +kernel
theorem dL_told_686 : decode cL_told 686 = .ok (.iload 9, 2) := by decide +kernel
theorem dL_told_688 : decode cL_told 688 = .ok (.imul, 1) := by decide +kernel
theorem dL_told_689 : decode cL_told 689 = .ok (.iload 10, 2) := by decide +kernel
theorem dL_told_691 : decode cL_told 691 = .ok (.iadd, 1) := by decide +kernel
theorem dL_told_692 : decode cL_told 692 = .ok (.iaload, 1) := by decide +kernel
theorem dL_told_693 : decode cL_told 693 = .ok (.if_icmp .eq 5, 3) := by decide +kernel
theorem dL_told_696 : decode cL_told 696 = .ok (.iconst 0, 1) := by decide +kernel
theorem dL_told_697 : decode cL_told 697 = .ok (.ireturn, 1) := by decide +kernel
theorem dL_told_698 : decode cL_told 698 = .ok (.iinc 10 1, 3) := by decide +kernel
theorem dL_told_701 : decode cL_told 701 = .ok (.goto (-31), 3) := by decide +kernel
theorem dL_told_704 : decode cL_told 704 = .ok (.aload_n 0, 1) := by decide +kernel
theorem dL_told_705 : decode cL_told 705 = .ok (.iload 9, 2) := by decide +kernel
theorem dL_told_707 : decode cL_told 707 = .ok (.iconst 3, 1) := by decide +kernel
theorem dL_told_708 : decode cL_told 708 = .ok (.invokevirtual 34, 3) := by decide +kernel
theorem dL_told_711 : decode cL_told 711 = .ok (.aload 5, 2) := by decide +kernel
theorem dL_told_713 : decode cL_told 713 = .ok (.iconst 2, 1) := by decide +kernel
theorem dL_told_714 : decode cL_told 714 = .ok (.aload_n 3, 1) := by decide +kernel
theorem dL_told_715 : decode cL_told 715 = .ok (.iconst 3, 1) := by decide +kernel
theorem dL_told_716 : decode cL_told 716 = .ok (.iload 9, 2) := by decide +kernel
theorem dL_told_718 : decode cL_told 718 = .ok (.imul, 1) := by decide +kernel
theorem dL_told_719 : decode cL_told 719 = .ok (.iaload, 1) := by decide +kernel
theorem dL_told_720 : decode cL_told 720 = .ok (.imul, 1) := by decide +kernel
theorem dL_told_721 : decode cL_told 721 = .ok (.aload_n 3, 1) := by decide +kernel
theorem dL_told_722 : decode cL_told 722 = .ok (.iconst 3, 1) := by decide +kernel
theorem dL_told_723 : decode cL_told 723 = .ok (.iload 9, 2) := by decide +kernel
theorem dL_told_725 : decode cL_told 725 = .ok (.imul, 1) := by decide +kernel
theorem dL_told_726 : decode cL_told 726 = .ok (.iconst 1, 1) := by decide +kernel
theorem dL_told_727 : decode cL_told 727 = .ok (.iadd, 1) := by decide +kernel
theorem dL_told_728 : decode cL_told 728 = .ok (.iaload, 1) := by decide +kernel
theorem dL_told_729 : decode cL_told 729 = .ok (.iadd, 1) := by decide +kernel
theorem dL_told_730 : decode cL_told 730 = .ok (.iaload, 1) := by decide +kernel
theorem dL_told_731 : decode cL_told 731 = .ok (.iconst 2, 1) := by decide +kernel
theorem dL_told_732 : decode cL_told 732 = .ok (.irem, 1) := by decide +kernel
theorem dL_told_733 : decode cL_told 733 = .ok (.if_icmp .ne 18, 3) := by decide +kernel
theorem dL_told_736 : decode cL_told 736 = .ok (.aload_n 0, 1) := by decide +kernel
theorem dL_told_737 : decode cL_told 737 = .ok (.iload 9, 2) := by decide +kernel
theorem dL_told_739 : decode cL_told 739 = .ok (.iconst 4, 1) := by decide +kernel
theorem dL_told_740 : decode cL_told 740 = .ok (.invokevirtual 34, 3) := by decide +kernel
theorem dL_told_743 : decode cL_told 743 = .ok (.aload 7, 2) := by decide +kernel
theorem dL_told_745 : decode cL_told 745 = .ok (.iload 9, 2) := by decide +kernel
theorem dL_told_747 : decode cL_told 747 = .ok (.iaload, 1) := by decide +kernel
theorem dL_told_748 : decode cL_told 748 = .ok (.if_icmp .eq 5, 3) := by decide +kernel
theorem dL_told_751 : decode cL_told 751 = .ok (.iconst 0, 1) := by decide +kernel
theorem dL_told_752 : decode cL_told 752 = .ok (.ireturn, 1) := by decide +kernel
theorem dL_told_753 : decode cL_told 753 = .ok (.iinc 9 1, 3) := by decide +kernel
theorem dL_told_756 : decode cL_told 756 = .ok (.goto (-98), 3) := by decide +kernel
theorem dL_told_759 : decode cL_told 759 = .ok (.iconst 0, 1) := by decide +kernel
theorem dL_told_760 : decode cL_told 760 = .ok (.aload_n 3, 1) := by decide +kernel
theorem dL_told_761 : decode cL_told 761 = .ok (.aload 4, 2) := by decide +kernel
theorem dL_told_763 : decode cL_told 763 = .ok (.aload 5, 2) := by decide +kernel
theorem dL_told_765 : decode cL_told 765 = .ok (.invokestatic 14, 3) := by decide +kernel
theorem dL_told_768 : decode cL_told 768 = .ok (.istore 9, 2) := by decide +kernel
theorem dL_told_770 : decode cL_told 770 = .ok (.iconst 1, 1) := by decide +kernel
theorem dL_told_771 : decode cL_told 771 = .ok (.aload_n 3, 1) := by decide +kernel
theorem dL_told_772 : decode cL_told 772 = .ok (.aload 4, 2) := by decide +kernel
theorem dL_told_774 : decode cL_told 774 = .ok (.aload 5, 2) := by decide +kernel
theorem dL_told_776 : decode cL_told 776 = .ok (.invokestatic 14, 3) := by decide +kernel
theorem dL_told_779 : decode cL_told 779 = .ok (.istore 10, 2) := by decide +kernel
theorem dL_told_781 : decode cL_told 781 = .ok (.aload 4, 2) := by decide +kernel
theorem dL_told_783 : decode cL_told 783 = .ok (.bipush 6, 2) := by decide +kernel
theorem dL_told_785 : decode cL_told 785 = .ok (.iaload, 1) := by decide +kernel
theorem dL_told_786 : decode cL_told 786 = .ok (.aload 4, 2) := by decide +kernel
theorem dL_told_788 : decode cL_told 788 = .ok (.bipush 7, 2) := by decide +kernel
theorem dL_told_790 : decode cL_told 790 = .ok (.iaload, 1) := by decide +kernel
theorem dL_told_791 : decode cL_told 791 = .ok (.iadd, 1) := by decide +kernel
theorem dL_told_792 : decode cL_told 792 = .ok (.istore 11, 2) := by decide +kernel
theorem dL_told_794 : decode cL_told 794 = .ok (.aload_n 0, 1) := by decide +kernel
theorem dL_told_795 : decode cL_told 795 = .ok (.iconst 0, 1) := by decide +kernel
theorem dL_told_796 : decode cL_told 796 = .ok (.invokevirtual 37, 3) := by decide +kernel
theorem dL_told_799 : decode cL_told 799 = .ok (.iload 9, 2) := by decide +kernel
theorem dL_told_801 : decode cL_told 801 = .ok (.if_icmp .ne 42, 3) := by decide +kernel
theorem dL_told_804 : decode cL_told 804 = .ok (.aload_n 0, 1) := by decide +kernel
theorem dL_told_805 : decode cL_told 805 = .ok (.iconst 1, 1) := by decide +kernel
theorem dL_told_806 : decode cL_told 806 = .ok (.invokevirtual 37, 3) := by decide +kernel
theorem dL_told_809 : decode cL_told 809 = .ok (.iload 10, 2) := by decide +kernel
theorem dL_told_811 : decode cL_told 811 = .ok (.if_icmp .ne 32, 3) := by decide +kernel
theorem dL_told_814 : decode cL_told 814 = .ok (.aload_n 0, 1) := by decide +kernel
theorem dL_told_815 : decode cL_told 815 = .ok (.invokevirtual 40, 3) := by decide +kernel
theorem dL_told_818 : decode cL_told 818 = .ok (.iload 11, 2) := by decide +kernel
theorem dL_told_820 : decode cL_told 820 = .ok (.ifCond .ne 7, 3) := by decide +kernel
theorem dL_told_823 : decode cL_told 823 = .ok (.dconst 0, 1) := by decide +kernel
theorem dL_told_824 : decode cL_told 824 = .ok (.goto 15, 3) := by decide +kernel
theorem dL_told_827 : decode cL_told 827 = .ok (.dconst 1, 1) := by decide +kernel
theorem dL_told_828 : decode cL_told 828 = .ok (.aload 4, 2) := by decide +kernel
theorem dL_told_830 : decode cL_told 830 = .ok (.bipush 7, 2) := by decide +kernel
theorem dL_told_832 : decode cL_told 832 = .ok (.iaload, 1) := by decide +kernel
theorem dL_told_833 : decode cL_told 833 = .ok (.i2d, 1) := by decide +kernel
theorem dL_told_834 : decode cL_told 834 = .ok (.dmul, 1) := by decide +kernel
theorem dL_told_835 : decode cL_told 835 = .ok (.iload 11, 2) := by decide +kernel
theorem dL_told_837 : decode cL_told 837 = .ok (.i2d, 1) := by decide +kernel
theorem dL_told_838 : decode cL_told 838 = .ok (.ddiv, 1) := by decide +kernel
theorem dL_told_839 : decode cL_told 839 = .ok (.dcmp .l, 1) := by decide +kernel
theorem dL_told_840 : decode cL_told 840 = .ok (.ifCond .eq 5, 3) := by decide +kernel
theorem dL_told_843 : decode cL_told 843 = .ok (.iconst 0, 1) := by decide +kernel
theorem dL_told_844 : decode cL_told 844 = .ok (.ireturn, 1) := by decide +kernel
theorem dL_told_845 : decode cL_told 845 = .ok (.iconst 4, 1) := by decide +kernel
theorem dL_told_846 : decode cL_told 846 = .ok (.istore 12, 2) := by decide +kernel
theorem dL_told_848 : decode cL_told 848 = .ok (.iload 12, 2) := by decide +kernel
theorem dL_told_850 : decode cL_told 850 = .ok (.bipush 8, 2) := by decide +kernel
theorem dL_told_852 : decode cL_told 852 = .ok (.if_icmp .ge 27, 3) := by decide +kernel
theorem dL_told_855 : decode cL_told 855 = .ok (.aload_n 0, 1) := by decide +kernel
theorem dL_told_856 : decode cL_told 856 = .ok (.iload 12, 2) := by decide +kernel
theorem dL_told_858 : decode cL_told 858 = .ok (.iconst 3, 1) := by decide +kernel
theorem dL_told_859 : decode cL_told 859 = .ok (.iadd, 1) := by decide +kernel
theorem dL_told_860 : decode cL_told 860 = .ok (.invokevirtual 44, 3) := by decide +kernel
theorem dL_told_863 : decode cL_told 863 = .ok (.aload 4, 2) := by decide +kernel
theorem dL_told_865 : decode cL_told 865 = .ok (.iload 12, 2) := by decide +kernel
theorem dL_told_867 : decode cL_told 867 = .ok (.iaload, 1) := by decide +kernel
theorem dL_told_868 : decode cL_told 868 = .ok (.if_icmp .eq 5, 3) := by decide +kernel
theorem dL_told_871 : decode cL_told 871 = .ok (.iconst 0, 1) := by decide +kernel
theorem dL_told_872 : decode cL_told 872 = .ok (.ireturn, 1) := by decide +kernel
theorem dL_told_873 : decode cL_told 873 = .ok (.iinc 12 1, 3) := by decide +kernel
theorem dL_told_876 : decode cL_told 876 = .ok (.goto (-28), 3) := by decide +kernel
theorem dL_told_879 : decode cL_told 879 = .ok (.aload_n 0, 1) := by decide +kernel
theorem dL_told_880 : decode cL_told 880 = .ok (.iconst 0, 1) := by decide +kernel
theorem dL_told_881 : decode cL_told 881 = .ok (.invokevirtual 44, 3) := by decide +kernel
theorem dL_told_884 : decode cL_told 884 = .ok (.aload 4, 2) := by decide +kernel
theorem dL_told_886 : decode cL_told 886 = .ok (.iconst 0, 1) := by decide +kernel
theorem dL_told_887 : decode cL_told 887 = .ok (.iaload, 1) := by decide +kernel
theorem dL_told_888 : decode cL_told 888 = .ok (.if_icmp .ne 94, 3) := by decide +kernel
theorem dL_told_891 : decode cL_told 891 = .ok (.aload_n 0, 1) := by decide +kernel
theorem dL_told_892 : decode cL_told 892 = .ok (.iconst 1, 1) := by decide +kernel
theorem dL_told_893 : decode cL_told 893 = .ok (.invokevirtual 44, 3) := by decide +kernel
theorem dL_told_896 : decode cL_told 896 = .ok (.aload 4, 2) := by decide +kernel
theorem dL_told_898 : decode cL_told 898 = .ok (.iconst 1, 1) := by decide +kernel
theorem dL_told_899 : decode cL_told 899 = .ok (.iaload, 1) := by decide +kernel
theorem dL_told_900 : decode cL_told 900 = .ok (.if_icmp .ne 82, 3) := by decide +kernel
theorem dL_told_903 : decode cL_told 903 = .ok (.aload_n 0, 1) := by decide +kernel
theorem dL_told_904 : decode cL_told 904 = .ok (.iconst 2, 1) := by decide +kernel
theorem dL_told_905 : decode cL_told 905 = .ok (.invokevirtual 44, 3) := by decide +kernel
theorem dL_told_908 : decode cL_told 908 = .ok (.aload_n 1, 1) := by decide +kernel
theorem dL_told_909 : decode cL_told 909 = .ok (.aload_n 2, 1) := by decide +kernel
theorem dL_told_910 : decode cL_told 910 = .ok (.aload 4, 2) := by decide +kernel
theorem dL_told_912 : decode cL_told 912 = .ok (.aload 5, 2) := by decide +kernel
theorem dL_told_914 : decode cL_told 914 = .ok (.iconst 0, 1) := by decide +kernel
theorem dL_told_915 : decode cL_told 915 = .ok (.invokestatic 47, 3) := by decide +kernel
theorem dL_told_918 : decode cL_told 918 = .ok (.if_icmp .ne 64, 3) := by decide +kernel
theorem dL_told_921 : decode cL_told 921 = .ok (.aload_n 0, 1) := by decide +kernel
theorem dL_told_922 : decode cL_told 922 = .ok (.iconst 3, 1) := by decide +kernel
theorem dL_told_923 : decode cL_told 923 = .ok (.invokevirtual 44, 3) := by decide +kernel
theorem dL_told_926 : decode cL_told 926 = .ok (.aload 4, 2) := by decide +kernel
theorem dL_told_928 : decode cL_told 928 = .ok (.iconst 2, 1) := by decide +kernel
theorem dL_told_929 : decode cL_told 929 = .ok (.iaload, 1) := by decide +kernel
theorem dL_told_930 : decode cL_told 930 = .ok (.if_icmp .ne 52, 3) := by decide +kernel
theorem dL_told_933 : decode cL_told 933 = .ok (.aload_n 0, 1) := by decide +kernel
theorem dL_told_934 : decode cL_told 934 = .ok (.iconst 4, 1) := by decide +kernel
theorem dL_told_935 : decode cL_told 935 = .ok (.invokevirtual 44, 3) := by decide +kernel
theorem dL_told_938 : decode cL_told 938 = .ok (.iload 9, 2) := by decide +kernel
theorem dL_told_940 : decode cL_told 940 = .ok (.iload 10, 2) := by decide +kernel
theorem dL_told_942 : decode cL_told 942 = .ok (.if_icmp .ge 8, 3) := by decide +kernel
theorem dL_told_945 : decode cL_told 945 = .ok (.iload 9, 2) := by decide +kernel
theorem dL_told_947 : decode cL_told 947 = .ok (.goto 5, 3) := by decide +kernel
theorem dL_told_950 : decode cL_told 950 = .ok (.iload 10, 2) := by decide +kernel
theorem dL_told_952 : decode cL_told 952 = .ok (.if_icmp .ne 30, 3) := by decide +kernel
theorem dL_told_955 : decode cL_told 955 = .ok (.aload_n 0, 1) := by decide +kernel
theorem dL_told_956 : decode cL_told 956 = .ok (.iconst 5, 1) := by decide +kernel
theorem dL_told_957 : decode cL_told 957 = .ok (.invokevirtual 44, 3) := by decide +kernel
theorem dL_told_960 : decode cL_told 960 = .ok (.iload 8, 2) := by decide +kernel
theorem dL_told_962 : decode cL_told 962 = .ok (.if_icmp .ne 20, 3) := by decide +kernel
theorem dL_told_965 : decode cL_told 965 = .ok (.aload_n 0, 1) := by decide +kernel
theorem dL_told_966 : decode cL_told 966 = .ok (.bipush 6, 2) := by decide +kernel
theorem dL_told_968 : decode cL_told 968 = .ok (.invokevirtual 44, 3) := by decide +kernel
theorem dL_told_971 : decode cL_told 971 = .ok (.aload 4, 2) := by decide +kernel
theorem dL_told_973 : decode cL_told 973 = .ok (.iconst 3, 1) := by decide +kernel
theorem dL_told_974 : decode cL_told 974 = .ok (.iaload, 1) := by decide +kernel
theorem dL_told_975 : decode cL_told 975 = .ok (.if_icmp .ne 7, 3) := by decide +kernel
theorem dL_told_978 : decode cL_told 978 = .ok (.iconst 1, 1) := by decide +kernel
theorem dL_told_979 : decode cL_told 979 = .ok (.goto 4, 3) := by decide +kernel
theorem dL_told_982 : decode cL_told 982 = .ok (.iconst 0, 1) := by decide +kernel
theorem dL_told_983 : decode cL_told 983 = .ok (.ireturn, 1) := by decide +kernel
theorem dL_law_0 : decode cL_law 0 = .ok (.new 22, 3) := by decide +kernel
theorem dL_law_3 : decode cL_law 3 = .ok (.dup, 1) := by decide +kernel
theorem dL_law_4 : decode cL_law 4 = .ok (.invokespecial 102, 3) := by decide +kernel
theorem dL_law_7 : decode cL_law 7 = .ok (.astore_n 1, 1) := by decide +kernel
theorem dL_law_8 : decode cL_law 8 = .ok (.bipush 56, 2) := by decide +kernel
theorem dL_law_10 : decode cL_law 10 = .ok (.newarray .int, 2) := by decide +kernel
theorem dL_law_12 : decode cL_law 12 = .ok (.astore_n 2, 1) := by decide +kernel
theorem dL_law_13 : decode cL_law 13 = .ok (.bipush 24, 2) := by decide +kernel
theorem dL_law_15 : decode cL_law 15 = .ok (.newarray .int, 2) := by decide +kernel
theorem dL_law_17 : decode cL_law 17 = .ok (.astore_n 3, 1) := by decide +kernel
theorem dL_law_18 : decode cL_law 18 = .ok (.bipush 18, 2) := by decide +kernel
theorem dL_law_20 : decode cL_law 20 = .ok (.newarray .int, 2) := by decide +kernel
theorem dL_law_22 : decode cL_law 22 = .ok (.astore 4, 2) := by decide +kernel
theorem dL_law_24 : decode cL_law 24 = .ok (.bipush 9, 2) := by decide +kernel
theorem dL_law_26 : decode cL_law 26 = .ok (.newarray .int, 2) := by decide +kernel
theorem dL_law_28 : decode cL_law 28 = .ok (.astore 5, 2) := by decide +kernel
theorem dL_law_30 : decode cL_law 30 = .ok (.bipush 14, 2) := by decide +kernel
theorem dL_law_32 : decode cL_law 32 = .ok (.newarray .int, 2) := by decide +kernel
theorem dL_law_34 : decode cL_law 34 = .ok (.astore 6, 2) := by decide +kernel
theorem dL_law_36 : decode cL_law 36 = .ok (.bipush 14, 2) := by decide +kernel
theorem dL_law_38 : decode cL_law 38 = .ok (.newarray .int, 2) := by decide +kernel
theorem dL_law_40 : decode cL_law 40 = .ok (.astore 7, 2) := by decide +kernel
theorem dL_law_42 : decode cL_law 42 = .ok (.bipush 6, 2) := by decide +kernel
theorem dL_law_44 : decode cL_law 44 = .ok (.newarray .int, 2) := by decide +kernel
theorem dL_law_46 : decode cL_law 46 = .ok (.astore 8, 2) := by decide +kernel
theorem dL_law_48 : decode cL_law 48 = .ok (.aload 5, 2) := by decide +kernel
theorem dL_law_50 : decode cL_law 50 = .ok (.iconst 0, 1) := by decide +kernel
theorem dL_law_51 : decode cL_law 51 = .ok (.iconst 1, 1) := by decide +kernel
theorem dL_law_52 : decode cL_law 52 = .ok (.iastore, 1) := by decide +kernel
theorem dL_law_53 : decode cL_law 53 = .ok (.aload 5, 2) := by decide +kernel
theorem dL_law_55 : decode cL_law 55 = .ok (.iconst 3, 1) := by decide +kernel
theorem dL_law_56 : decode cL_law 56 = .ok (.bipush 10, 2) := by decide +kernel
theorem dL_law_58 : decode cL_law 58 = .ok (.iastore, 1) := by decide +kernel
theorem dL_law_59 : decode cL_law 59 = .ok (.aload_n 1, 1) := by decide +kernel
theorem dL_law_60 : decode cL_law 60 = .ok (.aload_n 2, 1) := by decide +kernel
theorem dL_law_61 : decode cL_law 61 = .ok (.aload_n 3, 1) := by decide +kernel
theorem dL_law_62 : decode cL_law 62 = .ok (.aload 4, 2) := by decide +kernel
theorem dL_law_64 : decode cL_law 64 = .ok (.aload 5, 2) := by decide +kernel
theorem dL_law_66 : decode cL_law 66 = .ok (.invokestatic 103, 3) := by decide +kernel
theorem dL_law_69 : decode cL_law 69 = .ok (.ifCond .ne 5, 3) := by decide +kernel
theorem dL_law_72 : decode cL_law 72 = .ok (.iconst 0, 1) := by decide +kernel
theorem dL_law_73 : decode cL_law 73 = .ok (.ireturn, 1) := by decide +kernel
theorem dL_law_74 : decode cL_law 74 = .ok (.iconst 0, 1) := by decide +kernel
theorem dL_law_75 : decode cL_law 75 = .ok (.istore 9, 2) := by decide +kernel
theorem dL_law_77 : decode cL_law 77 = .ok (.iload 9, 2) := by decide +kernel
theorem dL_law_79 : decode cL_law 79 = .ok (.bipush 24, 2) := by decide +kernel
theorem dL_law_81 : decode cL_law 81 = .ok (.if_icmp .ge 136, 3) := by decide +kernel
theorem dL_law_84 : decode cL_law 84 = .ok (.aload_n 0, 1) := by decide +kernel
theorem dL_law_85 : decode cL_law 85 = .ok (.iconst 2, 1) := by decide +kernel
theorem dL_law_86 : decode cL_law 86 = .ok (.iload 9, 2) := by decide +kernel
theorem dL_law_88 : decode cL_law 88 = .ok (.imul, 1) := by decide +kernel
theorem dL_law_89 : decode cL_law 89 = .ok (.invokestatic 107, 3) := by decide +kernel
theorem dL_law_92 : decode cL_law 92 = .ok (.ldc 111, 2) := by decide +kernel
theorem dL_law_94 : decode cL_law 94 = .ok (.iand, 1) := by decide +kernel
theorem dL_law_95 : decode cL_law 95 = .ok (.istore 10, 2) := by decide +kernel
theorem dL_law_97 : decode cL_law 97 = .ok (.aload_n 0, 1) := by decide +kernel
theorem dL_law_98 : decode cL_law 98 = .ok (.iconst 2, 1) := by decide +kernel
theorem dL_law_99 : decode cL_law 99 = .ok (.iload 9, 2) := by decide +kernel
theorem dL_law_101 : decode cL_law 101 = .ok (.imul, 1) := by decide +kernel
theorem dL_law_102 : decode cL_law 102 = .ok (.iconst 1, 1) := by decide +kernel
theorem dL_law_103 : decode cL_law 103 = .ok (.iadd, 1) := by decide +kernel
theorem dL_law_104 : decode cL_law 104 = .ok (.invokestatic 107, 3) := by decide +kernel
theorem dL_law_107 : decode cL_law 107 = .ok (.ldc 111, 2) := by decide +kernel
theorem dL_law_109 : decode cL_law 109 = .ok (.iand, 1) := by decide +kernel
theorem dL_law_110 : decode cL_law 110 = .ok (.istore 11, 2) := by decide +kernel
theorem dL_law_112 : decode cL_law 112 = .ok (.aload_n 1, 1) := by decide +kernel
theorem dL_law_113 : decode cL_law 113 = .ok (.iload 9, 2) := by decide +kernel
theorem dL_law_115 : decode cL_law 115 = .ok (.iconst 3, 1) := by decide +kernel
theorem dL_law_116 : decode cL_law 116 = .ok (.if_icmp .ge 7, 3) := by decide +kernel
theorem dL_law_119 : decode cL_law 119 = .ok (.iconst 0, 1) := by decide +kernel
theorem dL_law_120 : decode cL_law 120 = .ok (.goto 23, 3) := by decide +kernel
theorem dL_law_123 : decode cL_law 123 = .ok (.iload 9, 2) := by decide +kernel
theorem dL_law_125 : decode cL_law 125 = .ok (.iconst 5, 1) := by decide +kernel
theorem dL_law_126 : decode cL_law 126 = .ok (.if_icmp .ge 7, 3) := by decide +kernel
theorem dL_law_129 : decode cL_law 129 = .ok (.iconst 3, 1) := by decide +kernel
theorem dL_law_130 : decode cL_law 130 = .ok (.goto 13, 3) := by decide +kernel
theorem dL_law_133 : decode cL_law 133 = .ok (.iload 10, 2) := by decide +kernel
theorem dL_law_135 : decode cL_law 135 = .ok (.bipush 13, 2) := by decide +kernel
theorem dL_law_137 : decode cL_law 137 = .ok (.ishr, 1) := by decide +kernel
theorem dL_law_138 : decode cL_law 138 = .ok (.bipush 16, 2) := by decide +kernel
theorem dL_law_140 : decode cL_law 140 = .ok (.invokestatic 51, 3) := by decide +kernel
theorem dL_law_143 : decode cL_law 143 = .ok (.iload 10, 2) := by decide +kernel
theorem dL_law_145 : decode cL_law 145 = .ok (.iload 11, 2) := by decide +kernel
theorem dL_law_147 : decode cL_law 147 = .ok (.aload_n 2, 1) := by decide +kernel
theorem dL_law_148 : decode cL_law 148 = .ok (.aload_n 3, 1) := by decide +kernel
theorem dL_law_149 : decode cL_law 149 = .ok (.aload 4, 2) := by decide +kernel
theorem dL_law_151 : decode cL_law 151 = .ok (.aload 5, 2) := by decide +kernel
theorem dL_law_153 : decode cL_law 153 = .ok (.aload 6, 2) := by decide +kernel
theorem dL_law_155 : decode cL_law 155 = .ok (.aload 7, 2) := by decide +kernel
theorem dL_law_157 : decode cL_law 157 = .ok (.aload 8, 2) := by decide +kernel
theorem dL_law_159 : decode cL_law 159 = .ok (.invokestatic 112, 3) := by decide +kernel
theorem dL_law_162 : decode cL_law 162 = .ok (.ifCond .eq 16, 3) := by decide +kernel
theorem dL_law_165 : decode cL_law 165 = .ok (.aload_n 1, 1) := by decide +kernel
theorem dL_law_166 : decode cL_law 166 = .ok (.aload_n 2, 1) := by decide +kernel
theorem dL_law_167 : decode cL_law 167 = .ok (.aload_n 3, 1) := by decide +kernel
theorem dL_law_168 : decode cL_law 168 = .ok (.aload 4, 2) := by decide +kernel
theorem dL_law_170 : decode cL_law 170 = .ok (.aload 5, 2) := by decide +kernel
theorem dL_law_172 : decode cL_law 172 = .ok (.invokestatic 103, 3) := by decide +kernel
theorem dL_law_175 : decode cL_law 175 = .ok (.ifCond .ne 5, 3) := by decide +kernel
theorem dL_law_178 : decode cL_law 178 = .ok (.iconst 0, 1) := by decide +kernel
theorem dL_law_179 : decode cL_law 179 = .ok (.ireturn, 1) := by decide +kernel
theorem dL_law_180 : decode cL_law 180 = .ok (.iload 9, 2) := by decide +kernel
theorem dL_law_182 : decode cL_law 182 = .ok (.iconst 5, 1) := by decide +kernel
theorem dL_law_183 : decode cL_law 183 = .ok (.irem, 1) := by decide +kernel
theorem dL_law_184 : decode cL_law 184 = .ok (.iconst 4, 1) := by decide +kernel
theorem dL_law_185 : decode cL_law 185 = .ok (.if_icmp .ne 26, 3) := by decide +kernel
theorem dL_law_188 : decode cL_law 188 = .ok (.aload_n 1, 1) := by decide +kernel
theorem dL_law_189 : decode cL_law 189 = .ok (.iload 11, 2) := by decide +kernel
theorem dL_law_191 : decode cL_law 191 = .ok (.iconst 2, 1) := by decide +kernel
theorem dL_law_192 : decode cL_law 192 = .ok (.ishr, 1) := by decide +kernel
theorem dL_law_193 : decode cL_law 193 = .ok (.iload 10, 2) := by decide +kernel
theorem dL_law_195 : decode cL_law 195 = .ok (.iconst 2, 1) := by decide +kernel
theorem dL_law_196 : decode cL_law 196 = .ok (.ishr, 1) := by decide +kernel
theorem dL_law_197 : decode cL_law 197 = .ok (.aload_n 2, 1) := by decide +kernel
theorem dL_law_198 : decode cL_law 198 = .ok (.aload_n 3, 1) := by decide +kernel
theorem dL_law_199 : decode cL_law 199 = .ok (.aload 4, 2) := by decide +kernel
theorem dL_law_201 : decode cL_law 201 = .ok (.aload 5, 2) := by decide +kernel
theorem dL_law_203 : decode cL_law 203 = .ok (.invokestatic 116, 3) := by decide +kernel
theorem dL_law_206 : decode cL_law 206 = .ok (.ifCond .ne 5, 3) := by decide +kernel
theorem dL_law_209 : decode cL_law 209 = .ok (.iconst 0, 1) := by decide +kernel
theorem dL_law_210 : decode cL_law 210 = .ok (.ireturn, 1) := by decide +kernel
theorem dL_law_211 : decode cL_law 211 = .ok (.iinc 9 1, 3) := by decide +kernel
theorem dL_law_214 : decode cL_law 214 = .ok (.goto (-137), 3) := by decide +kernel
theorem dL_law_217 : decode cL_law 217 = .ok (.iconst 1, 1) := by decide +kernel
theorem dL_law_218 : decode cL_law 218 = .ok (.ireturn, 1) := by decide +kernel
