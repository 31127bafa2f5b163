theorem dL_cell_0 : decode cL_cell 0 = .ok (.iload_n 1, 1) := by decide +kernel
theorem dL_cell_1 : decode cL_cell 1 = .ok (.aload_n 0, 1) := by decide +kernel
theorem dL_cell_2 : decode cL_cell 2 = .ok (.arraylength, 1) := by decide +kernel
theorem dL_cell_3 : decode cL_cell 3 = .ok (.if_icmp .ge 9, 3) := by decide +kernel
theorem dL_cell_6 : decode cL_cell 6 = .ok (.aload_n 0, 1) := by decide +kernel
theorem dL_cell_7 : decode cL_cell 7 = .ok (.iload_n 1, 1) := by decide +kernel
theorem dL_cell_8 : decode cL_cell 8 = .ok (.iaload, 1) := by decide +kernel
theorem dL_cell_9 : decode cL_cell 9 = .ok (.goto 9, 3) := by decide +kernel
theorem dL_cell_12 : decode cL_cell 12 = .ok (.ldc 7, 2) := by decide +kernel
theorem dL_cell_14 : decode cL_cell 14 = .ok (.iload_n 1, 1) := by decide +kernel
theorem dL_cell_15 : decode cL_cell 15 = .ok (.iconst 1, 1) := by decide +kernel
theorem dL_cell_16 : decode cL_cell 16 = .ok (.iadd, 1) := by decide +kernel
theorem dL_cell_17 : decode cL_cell 17 = .ok (.imul, 1) := by decide +kernel
theorem dL_cell_18 : decode cL_cell 18 = .ok (.ireturn, 1) := by decide +kernel
theorem dL_at_0 : decode cL_at 0 = .ok (.iload_n 0, 1) := by decide +kernel
theorem dL_at_1 : decode cL_at 1 = .ok (.iconst 1, 1) := by decide +kernel
theorem dL_at_2 : decode cL_at 2 = .ok (.iushr, 1) := by decide +kernel
theorem dL_at_3 : decode cL_at 3 = .ok (.iload_n 1, 1) := by decide +kernel
theorem dL_at_4 : decode cL_at 4 = .ok (.irem, 1) := by decide +kernel
theorem dL_at_5 : decode cL_at 5 = .ok (.ireturn, 1) := by decide +kernel
theorem dL_find_0 : decode cL_find 0 = .ok (.aload 4, 2) := by decide +kernel
theorem dL_find_2 : decode cL_find 2 = .ok (.iconst 0, 1) := by decide +kernel
theorem dL_find_3 : decode cL_find 3 = .ok (.iconst 2, 1) := by decide +kernel
theorem dL_find_4 : decode cL_find 4 = .ok (.iastore, 1) := by decide +kernel
theorem dL_find_5 : decode cL_find 5 = .ok (.aload 4, 2) := by decide +kernel
theorem dL_find_7 : decode cL_find 7 = .ok (.iconst 1, 1) := by decide +kernel
theorem dL_find_8 : decode cL_find 8 = .ok (.iconst 3, 1) := by decide +kernel
theorem dL_find_9 : decode cL_find 9 = .ok (.iastore, 1) := by decide +kernel
theorem dL_find_10 : decode cL_find 10 = .ok (.iconst 0, 1) := by decide +kernel
theorem dL_find_11 : decode cL_find 11 = .ok (.istore 7, 2) := by decide +kernel
theorem dL_find_13 : decode cL_find 13 = .ok (.iload 7, 2) := by decide +kernel
theorem dL_find_15 : decode cL_find 15 = .ok (.bipush 14, 2) := by decide +kernel
theorem dL_find_17 : decode cL_find 17 = .ok (.if_icmp .ge 15, 3) := by decide +kernel
theorem dL_find_20 : decode cL_find 20 = .ok (.aload 5, 2) := by decide +kernel
theorem dL_find_22 : decode cL_find 22 = .ok (.iload 7, 2) := by decide +kernel
theorem dL_find_24 : decode cL_find 24 = .ok (.iconst 0, 1) := by decide +kernel
theorem dL_find_25 : decode cL_find 25 = .ok (.iastore, 1) := by decide +kernel
theorem dL_find_26 : decode cL_find 26 = .ok (.iinc 7 1, 3) := by decide +kernel
theorem dL_find_29 : decode cL_find 29 = .ok (.goto (-16), 3) := by decide +kernel
theorem dL_find_32 : decode cL_find 32 = .ok (.iconst 1, 1) := by decide +kernel
theorem dL_find_33 : decode cL_find 33 = .ok (.istore 7, 2) := by decide +kernel
theorem dL_find_35 : decode cL_find 35 = .ok (.iload 7, 2) := by decide +kernel
theorem dL_find_37 : decode cL_find 37 = .ok (.aload_n 3, 1) := by decide +kernel
theorem dL_find_38 : decode cL_find 38 = .ok (.iconst 0, 1) := by decide +kernel
theorem dL_find_39 : decode cL_find 39 = .ok (.iaload, 1) := by decide +kernel
theorem dL_find_40 : decode cL_find 40 = .ok (.if_icmp .ge 127, 3) := by decide +kernel
theorem dL_find_43 : decode cL_find 43 = .ok (.iconst 0, 1) := by decide +kernel
theorem dL_find_44 : decode cL_find 44 = .ok (.istore 8, 2) := by decide +kernel
theorem dL_find_46 : decode cL_find 46 = .ok (.iload 8, 2) := by decide +kernel
theorem dL_find_48 : decode cL_find 48 = .ok (.iconst 2, 1) := by decide +kernel
theorem dL_find_49 : decode cL_find 49 = .ok (.if_icmp .ge 112, 3) := by decide +kernel
theorem dL_find_52 : decode cL_find 52 = .ok (.aload 4, 2) := by decide +kernel
theorem dL_find_54 : decode cL_find 54 = .ok (.iconst 2, 1) := by decide +kernel
theorem dL_find_55 : decode cL_find 55 = .ok (.aload_n 0, 1) := by decide +kernel
theorem dL_find_56 : decode cL_find 56 = .ok (.bipush 8, 2) := by decide +kernel
theorem dL_find_58 : decode cL_find 58 = .ok (.iload 7, 2) := by decide +kernel
theorem dL_find_60 : decode cL_find 60 = .ok (.imul, 1) := by decide +kernel
theorem dL_find_61 : decode cL_find 61 = .ok (.iaload, 1) := by decide +kernel
theorem dL_find_62 : decode cL_find 62 = .ok (.imul, 1) := by decide +kernel
theorem dL_find_63 : decode cL_find 63 = .ok (.aload_n 0, 1) := by decide +kernel
theorem dL_find_64 : decode cL_find 64 = .ok (.bipush 8, 2) := by decide +kernel
theorem dL_find_66 : decode cL_find 66 = .ok (.iload 7, 2) := by decide +kernel
theorem dL_find_68 : decode cL_find 68 = .ok (.imul, 1) := by decide +kernel
theorem dL_find_69 : decode cL_find 69 = .ok (.iconst 1, 1) := by decide +kernel
theorem dL_find_70 : decode cL_find 70 = .ok (.iadd, 1) := by decide +kernel
theorem dL_find_71 : decode cL_find 71 = .ok (.iaload, 1) := by decide +kernel
theorem dL_find_72 : decode cL_find 72 = .ok (.iconst 1, 1) := by decide +kernel
theorem dL_find_73 : decode cL_find 73 = .ok (.if_icmp .ne 10, 3) := by decide +kernel
theorem dL_find_76 : decode cL_find 76 = .ok (.iconst 1, 1) := by decide +kernel
theorem dL_find_77 : decode cL_find 77 = .ok (.iload 8, 2) := by decide +kernel
theorem dL_find_79 : decode cL_find 79 = .ok (.isub, 1) := by decide +kernel
theorem dL_find_80 : decode cL_find 80 = .ok (.goto 5, 3) := by decide +kernel
theorem dL_find_83 : decode cL_find 83 = .ok (.iload 8, 2) := by decide +kernel
theorem dL_find_85 : decode cL_find 85 = .ok (.iadd, 1) := by decide +kernel
theorem dL_find_86 : decode cL_find 86 = .ok (.iaload, 1) := by decide +kernel
theorem dL_find_87 : decode cL_find 87 = .ok (.istore 9, 2) := by decide +kernel
theorem dL_find_89 : decode cL_find 89 = .ok (.iload 9, 2) := by decide +kernel
theorem dL_find_91 : decode cL_find 91 = .ok (.iconst 1, 1) := by decide +kernel
theorem dL_find_92 : decode cL_find 92 = .ok (.if_icmp .le 35, 3) := by decide +kernel
theorem dL_find_95 : decode cL_find 95 = .ok (.aload_n 0, 1) := by decide +kernel
theorem dL_find_96 : decode cL_find 96 = .ok (.bipush 8, 2) := by decide +kernel
theorem dL_find_98 : decode cL_find 98 = .ok (.iload 7, 2) := by decide +kernel
theorem dL_find_100 : decode cL_find 100 = .ok (.imul, 1) := by decide +kernel
theorem dL_find_101 : decode cL_find 101 = .ok (.iconst 2, 1) := by decide +kernel
theorem dL_find_102 : decode cL_find 102 = .ok (.iadd, 1) := by decide +kernel
theorem dL_find_103 : decode cL_find 103 = .ok (.iaload, 1) := by decide +kernel
theorem dL_find_104 : decode cL_find 104 = .ok (.iconst 1, 1) := by decide +kernel
theorem dL_find_105 : decode cL_find 105 = .ok (.if_icmp .ne 22, 3) := by decide +kernel
theorem dL_find_108 : decode cL_find 108 = .ok (.aload_n 0, 1) := by decide +kernel
theorem dL_find_109 : decode cL_find 109 = .ok (.bipush 8, 2) := by decide +kernel
theorem dL_find_111 : decode cL_find 111 = .ok (.iload 7, 2) := by decide +kernel
theorem dL_find_113 : decode cL_find 113 = .ok (.imul, 1) := by decide +kernel
theorem dL_find_114 : decode cL_find 114 = .ok (.iconst 5, 1) := by decide +kernel
theorem dL_find_115 : decode cL_find 115 = .ok (.iadd, 1) := by decide +kernel
theorem dL_find_116 : decode cL_find 116 = .ok (.iload 8, 2) := by decide +kernel
theorem dL_find_118 : decode cL_find 118 = .ok (.iadd, 1) := by decide +kernel
theorem dL_find_119 : decode cL_find 119 = .ok (.iaload, 1) := by decide +kernel
theorem dL_find_120 : decode cL_find 120 = .ok (.ifCond .ne 7, 3) := by decide +kernel
theorem dL_find_123 : decode cL_find 123 = .ok (.iconst 1, 1) := by decide +kernel
theorem dL_find_124 : decode cL_find 124 = .ok (.goto 4, 3) := by decide +kernel
theorem dL_find_127 : decode cL_find 127 = .ok (.iconst 0, 1) := by decide +kernel
theorem dL_find_128 : decode cL_find 128 = .ok (.istore 10, 2) := by decide +kernel
theorem dL_find_130 : decode cL_find 130 = .ok (.aload 4, 2) := by decide +kernel
theorem dL_find_132 : decode cL_find 132 = .ok (.iconst 2, 1) := by decide +kernel
theorem dL_find_133 : decode cL_find 133 = .ok (.iload 7, 2) := by decide +kernel
theorem dL_find_135 : decode cL_find 135 = .ok (.imul, 1) := by decide +kernel
theorem dL_find_136 : decode cL_find 136 = .ok (.iload 8, 2) := by decide +kernel
theorem dL_find_138 : decode cL_find 138 = .ok (.iadd, 1) := by decide +kernel
theorem dL_find_139 : decode cL_find 139 = .ok (.iload 9, 2) := by decide +kernel
theorem dL_find_141 : decode cL_find 141 = .ok (.iconst 2, 1) := by decide +kernel
theorem dL_find_142 : decode cL_find 142 = .ok (.irem, 1) := by decide +kernel
theorem dL_find_143 : decode cL_find 143 = .ok (.iload 10, 2) := by decide +kernel
theorem dL_find_145 : decode cL_find 145 = .ok (.ifCond .eq 7, 3) := by decide +kernel
theorem dL_find_148 : decode cL_find 148 = .ok (.iconst 2, 1) := by decide +kernel
theorem dL_find_149 : decode cL_find 149 = .ok (.goto 4, 3) := by decide +kernel
theorem dL_find_152 : decode cL_find 152 = .ok (.iconst 0, 1) := by decide +kernel
theorem dL_find_153 : decode cL_find 153 = .ok (.iadd, 1) := by decide +kernel
theorem dL_find_154 : decode cL_find 154 = .ok (.iastore, 1) := by decide +kernel
theorem dL_find_155 : decode cL_find 155 = .ok (.iinc 8 1, 3) := by decide +kernel
theorem dL_find_158 : decode cL_find 158 = .ok (.goto (-112), 3) := by decide +kernel
theorem dL_find_161 : decode cL_find 161 = .ok (.iinc 7 1, 3) := by decide +kernel
theorem dL_find_164 : decode cL_find 164 = .ok (.goto (-129), 3) := by decide +kernel
theorem dL_find_167 : decode cL_find 167 = .ok (.iconst 0, 1) := by decide +kernel
theorem dL_find_168 : decode cL_find 168 = .ok (.istore 7, 2) := by decide +kernel
theorem dL_find_170 : decode cL_find 170 = .ok (.iload 7, 2) := by decide +kernel
theorem dL_find_172 : decode cL_find 172 = .ok (.aload_n 3, 1) := by decide +kernel
theorem dL_find_173 : decode cL_find 173 = .ok (.iconst 1, 1) := by decide +kernel
theorem dL_find_174 : decode cL_find 174 = .ok (.iaload, 1) := by decide +kernel
theorem dL_find_175 : decode cL_find 175 = .ok (.if_icmp .ge 70, 3) := by decide +kernel
theorem dL_find_178 : decode cL_find 178 = .ok (.iload 7, 2) := by decide +kernel
theorem dL_find_180 : decode cL_find 180 = .ok (.aload_n 0, 1) := by decide +kernel
theorem dL_find_181 : decode cL_find 181 = .ok (.aload_n 1, 1) := by decide +kernel
theorem dL_find_182 : decode cL_find 182 = .ok (.aload 4, 2) := by decide +kernel
theorem dL_find_184 : decode cL_find 184 = .ok (.invokestatic 8, 3) := by decide +kernel
theorem dL_find_187 : decode cL_find 187 = .ok (.ifCond .le 6, 3) := by decide +kernel
theorem dL_find_190 : decode cL_find 190 = .ok (.goto 49, 3) := by decide +kernel
theorem dL_find_193 : decode cL_find 193 = .ok (.aload 5, 2) := by decide +kernel
theorem dL_find_195 : decode cL_find 195 = .ok (.iconst 2, 1) := by decide +kernel
theorem dL_find_196 : decode cL_find 196 = .ok (.aload_n 1, 1) := by decide +kernel
theorem dL_find_197 : decode cL_find 197 = .ok (.iconst 3, 1) := by decide +kernel
theorem dL_find_198 : decode cL_find 198 = .ok (.iload 7, 2) := by decide +kernel
theorem dL_find_200 : decode cL_find 200 = .ok (.imul, 1) := by decide +kernel
theorem dL_find_201 : decode cL_find 201 = .ok (.iaload, 1) := by decide +kernel
theorem dL_find_202 : decode cL_find 202 = .ok (.imul, 1) := by decide +kernel
theorem dL_find_203 : decode cL_find 203 = .ok (.dup2, 1) := by decide +kernel
theorem dL_find_204 : decode cL_find 204 = .ok (.iaload, 1) := by decide +kernel
theorem dL_find_205 : decode cL_find 205 = .ok (.aload_n 1, 1) := by decide +kernel
theorem dL_find_206 : decode cL_find 206 = .ok (.iconst 3, 1) := by decide +kernel
theorem dL_find_207 : decode cL_find 207 = .ok (.iload 7, 2) := by decide +kernel
theorem dL_find_209 : decode cL_find 209 = .ok (.imul, 1) := by decide +kernel
theorem dL_find_210 : decode cL_find 210 = .ok (.iconst 1, 1) := by decide +kernel
theorem dL_find_211 : decode cL_find 211 = .ok (.iadd, 1) := by decide +kernel
theorem dL_find_212 : decode cL_find 212 = .ok (.iaload, 1) := by decide +kernel
theorem dL_find_213 : decode cL_find 213 = .ok (.iadd, 1) := by decide +kernel
theorem dL_find_214 : decode cL_find 214 = .ok (.iastore, 1) := by decide +kernel
theorem dL_find_215 : decode cL_find 215 = .ok (.aload 5, 2) := by decide +kernel
theorem dL_find_217 : decode cL_find 217 = .ok (.iconst 2, 1) := by decide +kernel
theorem dL_find_218 : decode cL_find 218 = .ok (.aload_n 1, 1) := by decide +kernel
theorem dL_find_219 : decode cL_find 219 = .ok (.iconst 3, 1) := by decide +kernel
theorem dL_find_220 : decode cL_find 220 = .ok (.iload 7, 2) := by decide +kernel
theorem dL_find_222 : decode cL_find 222 = .ok (.imul, 1) := by decide +kernel
theorem dL_find_223 : decode cL_find 223 = .ok (.iaload, 1) := by decide +kernel
theorem dL_find_224 : decode cL_find 224 = .ok (.imul, 1) := by decide +kernel
theorem dL_find_225 : decode cL_find 225 = .ok (.iconst 1, 1) := by decide +kernel
theorem dL_find_226 : decode cL_find 226 = .ok (.iadd, 1) := by decide +kernel
theorem dL_find_227 : decode cL_find 227 = .ok (.dup2, 1) := by decide +kernel
theorem dL_find_228 : decode cL_find 228 = .ok (.iaload, 1) := by decide +kernel
theorem dL_find_229 : decode cL_find 229 = .ok (.aload_n 1, 1) := by decide +kernel
theorem dL_find_230 : decode cL_find 230 = .ok (.iconst 3, 1) := by decide +kernel
theorem dL_find_231 : decode cL_find 231 = .ok (.iload 7, 2) := by decide +kernel
theorem dL_find_233 : decode cL_find 233 = .ok (.imul, 1) := by decide +kernel
theorem dL_find_234 : decode cL_find 234 = .ok (.iconst 1, 1) := by decide +kernel
theorem dL_find_235 : decode cL_find 235 = .ok (.iadd, 1) := by decide +kernel
theorem dL_find_236 : decode cL_find 236 = .ok (.iaload, 1) := by decide +kernel
theorem dL_find_237 : decode cL_find 237 = .ok (.iadd, 1) := by decide +kernel
theorem dL_find_238 : decode cL_find 238 = .ok (.iastore, 1) := by decide +kernel
theorem dL_find_239 : decode cL_find 239 = .ok (.iinc 7 1, 3) := by decide +kernel
theorem dL_find_242 : decode cL_find 242 = .ok (.goto (-72), 3) := by decide +kernel
theorem dL_find_245 : decode cL_find 245 = .ok (.iconst 0, 1) := by decide +kernel
theorem dL_find_246 : decode cL_find 246 = .ok (.aload_n 2, 1) := by decide +kernel
theorem dL_find_247 : decode cL_find 247 = .ok (.aload_n 3, 1) := by decide +kernel
theorem dL_find_248 : decode cL_find 248 = .ok (.aload 4, 2) := by decide +kernel
theorem dL_find_250 : decode cL_find 250 = .ok (.invokestatic 14, 3) := by decide +kernel
theorem dL_find_253 : decode cL_find 253 = .ok (.iconst 1, 1) := by decide +kernel
theorem dL_find_254 : decode cL_find 254 = .ok (.aload_n 2, 1) := by decide +kernel
theorem dL_find_255 : decode cL_find 255 = .ok (.aload_n 3, 1) := by decide +kernel
theorem dL_find_256 : decode cL_find 256 = .ok (.aload 4, 2) := by decide +kernel
theorem dL_find_258 : decode cL_find 258 = .ok (.invokestatic 14, 3) := by decide +kernel
theorem dL_find_261 : decode cL_find 261 = .ok (.if_icmp .ge 14, 3) := by decide +kernel
theorem dL_find_264 : decode cL_find 264 = .ok (.iconst 0, 1) := by decide +kernel
theorem dL_find_265 : decode cL_find 265 = .ok (.aload_n 2, 1) := by decide +kernel
theorem dL_find_266 : decode cL_find 266 = .ok (.aload_n 3, 1) := by decide +kernel
theorem dL_find_267 : decode cL_find 267 = .ok (.aload 4, 2) := by decide +kernel
theorem dL_find_269 : decode cL_find 269 = .ok (.invokestatic 14, 3) := by decide +kernel
theorem dL_find_272 : decode cL_find 272 = .ok (.goto 11, 3) := by decide +kernel
theorem dL_find_275 : decode cL_find 275 = .ok (.iconst 1, 1) := by decide +kernel
theorem dL_find_276 : decode cL_find 276 = .ok (.aload_n 2, 1) := by decide +kernel
theorem dL_find_277 : decode cL_find 277 = .ok (.aload_n 3, 1) := by decide +kernel
theorem dL_find_278 : decode cL_find 278 = .ok (.aload 4, 2) := by decide +kernel
theorem dL_find_280 : decode cL_find 280 = .ok (.invokestatic 14, 3) := by decide +kernel
theorem dL_find_283 : decode cL_find 283 = .ok (.istore 7, 2) := by decide +kernel
theorem dL_find_285 : decode cL_find 285 = .ok (.iload 7, 2) := by decide +kernel
theorem dL_find_287 : decode cL_find 287 = .ok (.istore 8, 2) := by decide +kernel
theorem dL_find_289 : decode cL_find 289 = .ok (.iload 7, 2) := by decide +kernel
theorem dL_find_291 : decode cL_find 291 = .ok (.istore 9, 2) := by decide +kernel
theorem dL_find_293 : decode cL_find 293 = .ok (.iconst 0, 1) := by decide +kernel
theorem dL_find_294 : decode cL_find 294 = .ok (.istore 10, 2) := by decide +kernel
theorem dL_find_296 : decode cL_find 296 = .ok (.iload 10, 2) := by decide +kernel
theorem dL_find_298 : decode cL_find 298 = .ok (.aload_n 3, 1) := by decide +kernel
theorem dL_find_299 : decode cL_find 299 = .ok (.iconst 2, 1) := by decide +kernel
theorem dL_find_300 : decode cL_find 300 = .ok (.iaload, 1) := by decide +kernel
theorem dL_find_301 : decode cL_find 301 = .ok (.if_icmp .ge 141, 3) := by decide +kernel
theorem dL_find_304 : decode cL_find 304 = .ok (.iconst 2, 1) := by decide +kernel
theorem dL_find_305 : decode cL_find 305 = .ok (.aload_n 2, 1) := by decide +kernel
theorem dL_find_306 : decode cL_find 306 = .ok (.iconst 3, 1) := by decide +kernel
theorem dL_find_307 : decode cL_find 307 = .ok (.iload 10, 2) := by decide +kernel
theorem dL_find_309 : decode cL_find 309 = .ok (.imul, 1) := by decide +kernel
theorem dL_find_310 : decode cL_find 310 = .ok (.iaload, 1) := by decide +kernel
theorem dL_find_311 : decode cL_find 311 = .ok (.imul, 1) := by decide +kernel
theorem dL_find_312 : decode cL_find 312 = .ok (.aload_n 2, 1) := by decide +kernel
theorem dL_find_313 : decode cL_find 313 = .ok (.iconst 3, 1) := by decide +kernel
theorem dL_find_314 : decode cL_find 314 = .ok (.iload 10, 2) := by decide +kernel
theorem dL_find_316 : decode cL_find 316 = .ok (.imul, 1) := by decide +kernel
theorem dL_find_317 : decode cL_find 317 = .ok (.iconst 1, 1) := by decide +kernel
theorem dL_find_318 : decode cL_find 318 = .ok (.iadd, 1) := by decide +kernel
theorem dL_find_319 : decode cL_find 319 = .ok (.iaload, 1) := by decide +kernel
theorem dL_find_320 : decode cL_find 320 = .ok (.iadd, 1) := by decide +kernel
theorem dL_find_321 : decode cL_find 321 = .ok (.istore 11, 2) := by decide +kernel
theorem dL_find_323 : decode cL_find 323 = .ok (.aload 4, 2) := by decide +kernel
theorem dL_find_325 : decode cL_find 325 = .ok (.iload 11, 2) := by decide +kernel
theorem dL_find_327 : decode cL_find 327 = .ok (.iaload, 1) := by decide +kernel
theorem dL_find_328 : decode cL_find 328 = .ok (.iconst 2, 1) := by decide +kernel
theorem dL_find_329 : decode cL_find 329 = .ok (.if_icmp .ne 8, 3) := by decide +kernel
theorem dL_find_332 : decode cL_find 332 = .ok (.iload 8, 2) := by decide +kernel
theorem dL_find_334 : decode cL_find 334 = .ok (.goto 18, 3) := by decide +kernel
theorem dL_find_337 : decode cL_find 337 = .ok (.aload 4, 2) := by decide +kernel
theorem dL_find_339 : decode cL_find 339 = .ok (.iload 11, 2) := by decide +kernel
theorem dL_find_341 : decode cL_find 341 = .ok (.iaload, 1) := by decide +kernel
theorem dL_find_342 : decode cL_find 342 = .ok (.iconst 3, 1) := by decide +kernel
theorem dL_find_343 : decode cL_find 343 = .ok (.if_icmp .ne 8, 3) := by decide +kernel
theorem dL_find_346 : decode cL_find 346 = .ok (.iload 9, 2) := by decide +kernel
theorem dL_find_348 : decode cL_find 348 = .ok (.goto 4, 3) := by decide +kernel
theorem dL_find_351 : decode cL_find 351 = .ok (.iconst 0, 1) := by decide +kernel
theorem dL_find_352 : decode cL_find 352 = .ok (.istore 12, 2) := by decide +kernel
theorem dL_find_354 : decode cL_find 354 = .ok (.aload 6, 2) := by decide +kernel
theorem dL_find_356 : decode cL_find 356 = .ok (.iload 10, 2) := by decide +kernel
theorem dL_find_358 : decode cL_find 358 = .ok (.aload_n 2, 1) := by decide +kernel
theorem dL_find_359 : decode cL_find 359 = .ok (.iconst 3, 1) := by decide +kernel
theorem dL_find_360 : decode cL_find 360 = .ok (.iload 10, 2) := by decide +kernel
theorem dL_find_362 : decode cL_find 362 = .ok (.imul, 1) := by decide +kernel
theorem dL_find_363 : decode cL_find 363 = .ok (.iconst 2, 1) := by decide +kernel
theorem dL_find_364 : decode cL_find 364 = .ok (.iadd, 1) := by decide +kernel
theorem dL_find_365 : decode cL_find 365 = .ok (.iaload, 1) := by decide +kernel
theorem dL_find_366 : decode cL_find 366 = .ok (.iload 12, 2) := by decide +kernel
theorem dL_find_368 : decode cL_find 368 = .ok (.if_icmp .ge 14, 3) := by decide +kernel
theorem dL_find_371 : decode cL_find 371 = .ok (.aload_n 2, 1) := by decide +kernel
theorem dL_find_372 : decode cL_find 372 = .ok (.iconst 3, 1) := by decide +kernel
theorem dL_find_373 : decode cL_find 373 = .ok (.iload 10, 2) := by decide +kernel
theorem dL_find_375 : decode cL_find 375 = .ok (.imul, 1) := by decide +kernel
theorem dL_find_376 : decode cL_find 376 = .ok (.iconst 2, 1) := by decide +kernel
theorem dL_find_377 : decode cL_find 377 = .ok (.iadd, 1) := by decide +kernel
theorem dL_find_378 : decode cL_find 378 = .ok (.iaload, 1) := by decide +kernel
theorem dL_find_379 : decode cL_find 379 = .ok (.goto 5, 3) := by decide +kernel
theorem dL_find_382 : decode cL_find 382 = .ok (.iload 12, 2) := by decide +kernel
theorem dL_find_384 : decode cL_find 384 = .ok (.iastore, 1) := by decide +kernel
theorem dL_find_385 : decode cL_find 385 = .ok (.aload 4, 2) := by decide +kernel
theorem dL_find_387 : decode cL_find 387 = .ok (.iload 11, 2) := by decide +kernel
theorem dL_find_389 : decode cL_find 389 = .ok (.iaload, 1) := by decide +kernel
theorem dL_find_390 : decode cL_find 390 = .ok (.iconst 2, 1) := by decide +kernel
theorem dL_find_391 : decode cL_find 391 = .ok (.if_icmp .ne 13, 3) := by decide +kernel
theorem dL_find_394 : decode cL_find 394 = .ok (.iload 8, 2) := by decide +kernel
theorem dL_find_396 : decode cL_find 396 = .ok (.aload 6, 2) := by decide +kernel
theorem dL_find_398 : decode cL_find 398 = .ok (.iload 10, 2) := by decide +kernel
theorem dL_find_400 : decode cL_find 400 = .ok (.iaload, 1) := by decide +kernel
theorem dL_find_401 : decode cL_find 401 = .ok (.isub, 1) := by decide +kernel
theorem dL_find_402 : decode cL_find 402 = .ok (.istore 8, 2) := by decide +kernel
theorem dL_find_404 : decode cL_find 404 = .ok (.aload 4, 2) := by decide +kernel
theorem dL_find_406 : decode cL_find 406 = .ok (.iload 11, 2) := by decide +kernel
theorem dL_find_408 : decode cL_find 408 = .ok (.iaload, 1) := by decide +kernel
theorem dL_find_409 : decode cL_find 409 = .ok (.iconst 3, 1) := by decide +kernel
theorem dL_find_410 : decode cL_find 410 = .ok (.if_icmp .ne 13, 3) := by decide +kernel
theorem dL_find_413 : decode cL_find 413 = .ok (.iload 9, 2) := by decide +kernel
theorem dL_find_415 : decode cL_find 415 = .ok (.aload 6, 2) := by decide +kernel
theorem dL_find_417 : decode cL_find 417 = .ok (.iload 10, 2) := by decide +kernel
theorem dL_find_419 : decode cL_find 419 = .ok (.iaload, 1) := by decide +kernel
theorem dL_find_420 : decode cL_find 420 = .ok (.isub, 1) := by decide +kernel
theorem dL_find_421 : decode cL_find 421 = .ok (.istore 9, 2) := by decide +kernel
theorem dL_find_423 : decode cL_find 423 = .ok (.aload 5, 2) := by decide +kernel
theorem dL_find_425 : decode cL_find 425 = .ok (.iload 11, 2) := by decide +kernel
theorem dL_find_427 : decode cL_find 427 = .ok (.dup2, 1) := by decide +kernel
theorem dL_find_428 : decode cL_find 428 = .ok (.iaload, 1) := by decide +kernel
theorem dL_find_429 : decode cL_find 429 = .ok (.aload 6, 2) := by decide +kernel
theorem dL_find_431 : decode cL_find 431 = .ok (.iload 10, 2) := by decide +kernel
theorem dL_find_433 : decode cL_find 433 = .ok (.iaload, 1) := by decide +kernel
theorem dL_find_434 : decode cL_find 434 = .ok (.iadd, 1) := by decide +kernel
theorem dL_find_435 : decode cL_find 435 = .ok (.iastore, 1) := by decide +kernel
theorem dL_find_436 : decode cL_find 436 = .ok (.iinc 10 1, 3) := by decide +kernel
theorem dL_find_439 : decode cL_find 439 = .ok (.goto (-143), 3) := by decide +kernel
theorem dL_find_442 : decode cL_find 442 = .ok (.aload_n 3, 1) := by decide +kernel
theorem dL_find_443 : decode cL_find 443 = .ok (.iconst 0, 1) := by decide +kernel
theorem dL_find_444 : decode cL_find 444 = .ok (.iaload, 1) := by decide +kernel
theorem dL_find_445 : decode cL_find 445 = .ok (.iconst 1, 1) := by decide +kernel
theorem dL_find_446 : decode cL_find 446 = .ok (.isub, 1) := by decide +kernel
theorem dL_find_447 : decode cL_find 447 = .ok (.istore 10, 2) := by decide +kernel
theorem dL_find_449 : decode cL_find 449 = .ok (.iload 10, 2) := by decide +kernel
theorem dL_find_451 : decode cL_find 451 = .ok (.ifCond .le 72, 3) := by decide +kernel
theorem dL_find_454 : decode cL_find 454 = .ok (.iconst 0, 1) := by decide +kernel
theorem dL_find_455 : decode cL_find 455 = .ok (.istore 11, 2) := by decide +kernel
theorem dL_find_457 : decode cL_find 457 = .ok (.iload 11, 2) := by decide +kernel
theorem dL_find_459 : decode cL_find 459 = .ok (.iconst 2, 1) := by decide +kernel
theorem dL_find_460 : decode cL_find 460 = .ok (.if_icmp .ge 57, 3) := by decide +kernel
theorem dL_find_463 : decode cL_find 463 = .ok (.aload 5, 2) := by decide +kernel
theorem dL_find_465 : decode cL_find 465 = .ok (.iconst 2, 1) := by decide +kernel
theorem dL_find_466 : decode cL_find 466 = .ok (.aload_n 0, 1) := by decide +kernel
theorem dL_find_467 : decode cL_find 467 = .ok (.bipush 8, 2) := by decide +kernel
theorem dL_find_469 : decode cL_find 469 = .ok (.iload 10, 2) := by decide +kernel
theorem dL_find_471 : decode cL_find 471 = .ok (.imul, 1) := by decide +kernel
theorem dL_find_472 : decode cL_find 472 = .ok (.iaload, 1) := by decide +kernel
theorem dL_find_473 : decode cL_find 473 = .ok (.imul, 1) := by decide +kernel
theorem dL_find_474 : decode cL_find 474 = .ok (.aload_n 0, 1) := by decide +kernel
theorem dL_find_475 : decode cL_find 475 = .ok (.bipush 8, 2) := by decide +kernel
theorem dL_find_477 : decode cL_find 477 = .ok (.iload 10, 2) := by decide +kernel
theorem dL_find_479 : decode cL_find 479 = .ok (.imul, 1) := by decide +kernel
theorem dL_find_480 : decode cL_find 480 = .ok (.iconst 1, 1) := by decide +kernel
theorem dL_find_481 : decode cL_find 481 = .ok (.iadd, 1) := by decide +kernel
theorem dL_find_482 : decode cL_find 482 = .ok (.iaload, 1) := by decide +kernel
theorem dL_find_483 : decode cL_find 483 = .ok (.iconst 1, 1) := by decide +kernel
theorem dL_find_484 : decode cL_find 484 = .ok (.if_icmp .ne 10, 3) := by decide +kernel
theorem dL_find_487 : decode cL_find 487 = .ok (.iconst 1, 1) := by decide +kernel
theorem dL_find_488 : decode cL_find 488 = .ok (.iload 11, 2) := by decide +kernel
theorem dL_find_490 : decode cL_find 490 = .ok (.isub, 1) := by decide +kernel
theorem dL_find_491 : decode cL_find 491 = .ok (.goto 5, 3) := by decide +kernel
theorem dL_find_494 : decode cL_find 494 = .ok (.iload 11, 2) := by decide +kernel
theorem dL_find_496 : decode cL_find 496 = .ok (.iadd, 1) := by decide +kernel
theorem dL_find_497 : decode cL_find 497 = .ok (.dup2, 1) := by decide +kernel
theorem dL_find_498 : decode cL_find 498 = .ok (.iaload, 1) := by decide +kernel
theorem dL_find_499 : decode cL_find 499 = .ok (.aload 5, 2) := by decide +kernel
theorem dL_find_501 : decode cL_find 501 = .ok (.iconst 2, 1) := by decide +kernel
theorem dL_find_502 : decode cL_find 502 = .ok (.iload 10, 2) := by decide +kernel
theorem dL_find_504 : decode cL_find 504 = .ok (.imul, 1) := by decide +kernel
theorem dL_find_505 : decode cL_find 505 = .ok (.iload 11, 2) := by decide +kernel
theorem dL_find_507 : decode cL_find 507 = .ok (.iadd, 1) := by decide +kernel
theorem dL_find_508 : decode cL_find 508 = .ok (.iaload, 1) := by decide +kernel
theorem dL_find_509 : decode cL_find 509 = .ok (.iadd, 1) := by decide +kernel
theorem dL_find_510 : decode cL_find 510 = .ok (.iastore, 1) := by decide +kernel
theorem dL_find_511 : decode cL_find 511 = .ok (.iinc 11 1, 3) := by decide +kernel
theorem dL_find_514 : decode cL_find 514 = .ok (.goto (-57), 3) := by decide +kernel
theorem dL_find_517 : decode cL_find 517 = .ok (.iinc 10 (-1), 3) := by decide +kernel
theorem dL_find_520 : decode cL_find 520 = .ok (.goto (-71), 3) := by decide +kernel
theorem dL_find_523 : decode cL_find 523 = .ok (.return_, 1) := by decide +kernel
theorem dL_lamp_0 : decode cL_lamp 0 = .ok (.iconst 0, 1) := by decide +kernel
theorem dL_lamp_1 : decode cL_lamp 1 = .ok (.istore 4, 2) := by decide +kernel
theorem dL_lamp_3 : decode cL_lamp 3 = .ok (.iconst 0, 1) := by decide +kernel
theorem dL_lamp_4 : decode cL_lamp 4 = .ok (.istore 5, 2) := by decide +kernel
theorem dL_lamp_6 : decode cL_lamp 6 = .ok (.iload 5, 2) := by decide +kernel
theorem dL_lamp_8 : decode cL_lamp 8 = .ok (.aload_n 2, 1) := by decide +kernel
theorem dL_lamp_9 : decode cL_lamp 9 = .ok (.iconst 2, 1) := by decide +kernel
theorem dL_lamp_10 : decode cL_lamp 10 = .ok (.iaload, 1) := by decide +kernel
theorem dL_lamp_11 : decode cL_lamp 11 = .ok (.if_icmp .ge 51, 3) := by decide +kernel
theorem dL_lamp_14 : decode cL_lamp 14 = .ok (.iload 4, 2) := by decide +kernel
theorem dL_lamp_16 : decode cL_lamp 16 = .ok (.aload_n 3, 1) := by decide +kernel
theorem dL_lamp_17 : decode cL_lamp 17 = .ok (.iconst 2, 1) := by decide +kernel
theorem dL_lamp_18 : decode cL_lamp 18 = .ok (.aload_n 1, 1) := by decide +kernel
theorem dL_lamp_19 : decode cL_lamp 19 = .ok (.iconst 3, 1) := by decide +kernel
theorem dL_lamp_20 : decode cL_lamp 20 = .ok (.iload 5, 2) := by decide +kernel
theorem dL_lamp_22 : decode cL_lamp 22 = .ok (.imul, 1) := by decide +kernel
theorem dL_lamp_23 : decode cL_lamp 23 = .ok (.iaload, 1) := by decide +kernel
theorem dL_lamp_24 : decode cL_lamp 24 = .ok (.imul, 1) := by decide +kernel
theorem dL_lamp_25 : decode cL_lamp 25 = .ok (.aload_n 1, 1) := by decide +kernel
theorem dL_lamp_26 : decode cL_lamp 26 = .ok (.iconst 3, 1) := by decide +kernel
theorem dL_lamp_27 : decode cL_lamp 27 = .ok (.iload 5, 2) := by decide +kernel
theorem dL_lamp_29 : decode cL_lamp 29 = .ok (.imul, 1) := by decide +kernel
theorem dL_lamp_30 : decode cL_lamp 30 = .ok (.iconst 1, 1) := by decide +kernel
theorem dL_lamp_31 : decode cL_lamp 31 = .ok (.iadd, 1) := by decide +kernel
theorem dL_lamp_32 : decode cL_lamp 32 = .ok (.iaload, 1) := by decide +kernel
theorem dL_lamp_33 : decode cL_lamp 33 = .ok (.iadd, 1) := by decide +kernel
theorem dL_lamp_34 : decode cL_lamp 34 = .ok (.iaload, 1) := by decide +kernel
theorem dL_lamp_35 : decode cL_lamp 35 = .ok (.iconst 2, 1) := by decide +kernel
theorem dL_lamp_36 : decode cL_lamp 36 = .ok (.iload_n 0, 1) := by decide +kernel
theorem dL_lamp_37 : decode cL_lamp 37 = .ok (.iadd, 1) := by decide +kernel
theorem dL_lamp_38 : decode cL_lamp 38 = .ok (.if_icmp .ne 14, 3) := by decide +kernel
theorem dL_lamp_41 : decode cL_lamp 41 = .ok (.aload_n 1, 1) := by decide +kernel
theorem dL_lamp_42 : decode cL_lamp 42 = .ok (.iconst 3, 1) := by decide +kernel
theorem dL_lamp_43 : decode cL_lamp 43 = .ok (.iload 5, 2) := by decide +kernel
theorem dL_lamp_45 : decode cL_lamp 45 = .ok (.imul, 1) := by decide +kernel
theorem dL_lamp_46 : decode cL_lamp 46 = .ok (.iconst 2, 1) := by decide +kernel
theorem dL_lamp_47 : decode cL_lamp 47 = .ok (.iadd, 1) := by decide +kernel
theorem dL_lamp_48 : decode cL_lamp 48 = .ok (.iaload, 1) := by decide +kernel
theorem dL_lamp_49 : decode cL_lamp 49 = .ok (.goto 4, 3) := by decide +kernel
theorem dL_lamp_52 : decode cL_lamp 52 = .ok (.iconst 0, 1) := by decide +kernel
theorem dL_lamp_53 : decode cL_lamp 53 = .ok (.iadd, 1) := by decide +kernel
theorem dL_lamp_54 : decode cL_lamp 54 = .ok (.istore 4, 2) := by decide +kernel
theorem dL_lamp_56 : decode cL_lamp 56 = .ok (.iinc 5 1, 3) := by decide +kernel
theorem dL_lamp_59 : decode cL_lamp 59 = .ok (.goto (-53), 3) := by decide +kernel
theorem dL_lamp_62 : decode cL_lamp 62 = .ok (.iload 4, 2) := by decide +kernel
theorem dL_lamp_64 : decode cL_lamp 64 = .ok (.ireturn, 1) := by decide +kernel
theorem dL_dark_0 : decode cL_dark 0 = .ok (.aload_n 2, 1) := by decide +kernel
theorem dL_dark_1 : decode cL_dark 1 = .ok (.iconst 3, 1) := by decide +kernel
theorem dL_dark_2 : decode cL_dark 2 = .ok (.iload_n 0, 1) := by decide +kernel
theorem dL_dark_3 : decode cL_dark 3 = .ok (.imul, 1) := by decide +kernel
theorem dL_dark_4 : decode cL_dark 4 = .ok (.iaload, 1) := by decide +kernel
theorem dL_dark_5 : decode cL_dark 5 = .ok (.istore 4, 2) := by decide +kernel
theorem dL_dark_7 : decode cL_dark 7 = .ok (.iload 4, 2) := by decide +kernel
theorem dL_dark_9 : decode cL_dark 9 = .ok (.istore 5, 2) := by decide +kernel
theorem dL_dark_11 : decode cL_dark 11 = .ok (.iload 5, 2) := by decide +kernel
theorem dL_dark_13 : decode cL_dark 13 = .ok (.ifCond .le 29, 3) := by decide +kernel
theorem dL_dark_16 : decode cL_dark 16 = .ok (.aload_n 1, 1) := by decide +kernel
theorem dL_dark_17 : decode cL_dark 17 = .ok (.bipush 8, 2) := by decide +kernel
theorem dL_dark_19 : decode cL_dark 19 = .ok (.iload 5, 2) := by decide +kernel
theorem dL_dark_21 : decode cL_dark 21 = .ok (.imul, 1) := by decide +kernel
theorem dL_dark_22 : decode cL_dark 22 = .ok (.iconst 2, 1) := by decide +kernel
theorem dL_dark_23 : decode cL_dark 23 = .ok (.iadd, 1) := by decide +kernel
theorem dL_dark_24 : decode cL_dark 24 = .ok (.iaload, 1) := by decide +kernel
theorem dL_dark_25 : decode cL_dark 25 = .ok (.ifCond .ne 5, 3) := by decide +kernel
theorem dL_dark_28 : decode cL_dark 28 = .ok (.iconst 1, 1) := by decide +kernel
theorem dL_dark_29 : decode cL_dark 29 = .ok (.ireturn, 1) := by decide +kernel
theorem dL_dark_30 : decode cL_dark 30 = .ok (.aload_n 1, 1) := by decide +kernel
theorem dL_dark_31 : decode cL_dark 31 = .ok (.bipush 8, 2) := by decide +kernel
theorem dL_dark_33 : decode cL_dark 33 = .ok (.iload 5, 2) := by decide +kernel
theorem dL_dark_35 : decode cL_dark 35 = .ok (.imul, 1) := by decide +kernel
theorem dL_dark_36 : decode cL_dark 36 = .ok (.iaload, 1) := by decide +kernel
theorem dL_dark_37 : decode cL_dark 37 = .ok (.istore 5, 2) := by decide +kernel
theorem dL_dark_39 : decode cL_dark 39 = .ok (.goto (-28), 3) := by decide +kernel
theorem dL_dark_42 : decode cL_dark 42 = .ok (.aload_n 3, 1) := by decide +kernel
theorem dL_dark_43 : decode cL_dark 43 = .ok (.iconst 2, 1) := by decide +kernel
theorem dL_dark_44 : decode cL_dark 44 = .ok (.iload 4, 2) := by decide +kernel
theorem dL_dark_46 : decode cL_dark 46 = .ok (.imul, 1) := by decide +kernel
theorem dL_dark_47 : decode cL_dark 47 = .ok (.iaload, 1) := by decide +kernel
theorem dL_dark_48 : decode cL_dark 48 = .ok (.iconst 2, 1) := by decide +kernel
theorem dL_dark_49 : decode cL_dark 49 = .ok (.if_icmp .ge 7, 3) := by decide +kernel
theorem dL_dark_52 : decode cL_dark 52 = .ok (.iconst 2, 1) := by decide +kernel
theorem dL_dark_53 : decode cL_dark 53 = .ok (.goto 45, 3) := by decide +kernel
theorem dL_dark_56 : decode cL_dark 56 = .ok (.aload_n 3, 1) := by decide +kernel
theorem dL_dark_57 : decode cL_dark 57 = .ok (.iconst 2, 1) := by decide +kernel
theorem dL_dark_58 : decode cL_dark 58 = .ok (.iload 4, 2) := by decide +kernel
theorem dL_dark_60 : decode cL_dark 60 = .ok (.imul, 1) := by decide +kernel
theorem dL_dark_61 : decode cL_dark 61 = .ok (.iconst 1, 1) := by decide +kernel
theorem dL_dark_62 : decode cL_dark 62 = .ok (.iadd, 1) := by decide +kernel
theorem dL_dark_63 : decode cL_dark 63 = .ok (.iaload, 1) := by decide +kernel
theorem dL_dark_64 : decode cL_dark 64 = .ok (.iconst 2, 1) := by decide +kernel
theorem dL_dark_65 : decode cL_dark 65 = .ok (.if_icmp .ge 7, 3) := by decide +kernel
theorem dL_dark_68 : decode cL_dark 68 = .ok (.iconst 3, 1) := by decide +kernel
theorem dL_dark_69 : decode cL_dark 69 = .ok (.goto 29, 3) := by decide +kernel
theorem dL_dark_72 : decode cL_dark 72 = .ok (.aload_n 2, 1) := by decide +kernel
theorem dL_dark_73 : decode cL_dark 73 = .ok (.iconst 3, 1) := by decide +kernel
theorem dL_dark_74 : decode cL_dark 74 = .ok (.iload_n 0, 1) := by decide +kernel
theorem dL_dark_75 : decode cL_dark 75 = .ok (.imul, 1) := by decide +kernel
theorem dL_dark_76 : decode cL_dark 76 = .ok (.iconst 2, 1) := by decide +kernel
theorem dL_dark_77 : decode cL_dark 77 = .ok (.iadd, 1) := by decide +kernel
theorem dL_dark_78 : decode cL_dark 78 = .ok (.iaload, 1) := by decide +kernel
theorem dL_dark_79 : decode cL_dark 79 = .ok (.iconst 1, 1) := by decide +kernel
theorem dL_dark_80 : decode cL_dark 80 = .ok (.if_icmp .ne 17, 3) := by decide +kernel
theorem dL_dark_83 : decode cL_dark 83 = .ok (.aload_n 3, 1) := by decide +kernel
theorem dL_dark_84 : decode cL_dark 84 = .ok (.iconst 2, 1) := by decide +kernel
theorem dL_dark_85 : decode cL_dark 85 = .ok (.iload 4, 2) := by decide +kernel
theorem dL_dark_87 : decode cL_dark 87 = .ok (.imul, 1) := by decide +kernel
theorem dL_dark_88 : decode cL_dark 88 = .ok (.iaload, 1) := by decide +kernel
theorem dL_dark_89 : decode cL_dark 89 = .ok (.iconst 3, 1) := by decide +kernel
theorem dL_dark_90 : decode cL_dark 90 = .ok (.if_icmp .ne 7, 3) := by decide +kernel
theorem dL_dark_93 : decode cL_dark 93 = .ok (.iconst 4, 1) := by decide +kernel
theorem dL_dark_94 : decode cL_dark 94 = .ok (.goto 4, 3) := by decide +kernel
theorem dL_dark_97 : decode cL_dark 97 = .ok (.iconst 0, 1) := by decide +kernel
theorem dL_dark_98 : decode cL_dark 98 = .ok (.ireturn, 1) := by decide +kernel
theorem dL_settle_0 : decode cL_settle 0 = .ok (.iconst 0, 1) := by decide +kernel
theorem dL_settle_1 : decode cL_settle 1 = .ok (.istore 7, 2) := by decide +kernel
theorem dL_settle_3 : decode cL_settle 3 = .ok (.aload_n 3, 1) := by decide +kernel
theorem dL_settle_4 : decode cL_settle 4 = .ok (.bipush 8, 2) := by decide +kernel
theorem dL_settle_6 : decode cL_settle 6 = .ok (.iconst (-1), 1) := by decide +kernel
theorem dL_settle_7 : decode cL_settle 7 = .ok (.iastore, 1) := by decide +kernel
theorem dL_settle_8 : decode cL_settle 8 = .ok (.aload_n 0, 1) := by decide +kernel
theorem dL_settle_9 : decode cL_settle 9 = .ok (.aload_n 1, 1) := by decide +kernel
theorem dL_settle_10 : decode cL_settle 10 = .ok (.aload_n 2, 1) := by decide +kernel
theorem dL_settle_11 : decode cL_settle 11 = .ok (.aload_n 3, 1) := by decide +kernel
theorem dL_settle_12 : decode cL_settle 12 = .ok (.aload 4, 2) := by decide +kernel
theorem dL_settle_14 : decode cL_settle 14 = .ok (.aload 5, 2) := by decide +kernel
theorem dL_settle_16 : decode cL_settle 16 = .ok (.aload 6, 2) := by decide +kernel
theorem dL_settle_18 : decode cL_settle 18 = .ok (.invokestatic 17, 3) := by decide +kernel
theorem dL_settle_21 : decode cL_settle 21 = .ok (.iconst (-1), 1) := by decide +kernel
theorem dL_settle_22 : decode cL_settle 22 = .ok (.istore 8, 2) := by decide +kernel
theorem dL_settle_24 : decode cL_settle 24 = .ok (.iconst 2, 1) := by decide +kernel
theorem dL_settle_25 : decode cL_settle 25 = .ok (.aload_n 3, 1) := by decide +kernel
theorem dL_settle_26 : decode cL_settle 26 = .ok (.iconst 0, 1) := by decide +kernel
theorem dL_settle_27 : decode cL_settle 27 = .ok (.iaload, 1) := by decide +kernel
theorem dL_settle_28 : decode cL_settle 28 = .ok (.imul, 1) := by decide +kernel
theorem dL_settle_29 : decode cL_settle 29 = .ok (.iconst 1, 1) := by decide +kernel
theorem dL_settle_30 : decode cL_settle 30 = .ok (.isub, 1) := by decide +kernel
theorem dL_settle_31 : decode cL_settle 31 = .ok (.istore 9, 2) := by decide +kernel
theorem dL_settle_33 : decode cL_settle 33 = .ok (.iload 9, 2) := by decide +kernel
theorem dL_settle_35 : decode cL_settle 35 = .ok (.iconst 1, 1) := by decide +kernel
theorem dL_settle_36 : decode cL_settle 36 = .ok (.if_icmp .le 78, 3) := by decide +kernel
theorem dL_settle_39 : decode cL_settle 39 = .ok (.aload 4, 2) := by decide +kernel
theorem dL_settle_41 : decode cL_settle 41 = .ok (.iload 9, 2) := by decide +kernel
theorem dL_settle_43 : decode cL_settle 43 = .ok (.iaload, 1) := by decide +kernel
theorem dL_settle_44 : decode cL_settle 44 = .ok (.iconst 1, 1) := by decide +kernel
theorem dL_settle_45 : decode cL_settle 45 = .ok (.if_icmp .le 63, 3) := by decide +kernel
theorem dL_settle_48 : decode cL_settle 48 = .ok (.aload 5, 2) := by decide +kernel
theorem dL_settle_50 : decode cL_settle 50 = .ok (.iload 9, 2) := by decide +kernel
theorem dL_settle_52 : decode cL_settle 52 = .ok (.iaload, 1) := by decide +kernel
theorem dL_settle_53 : decode cL_settle 53 = .ok (.aload_n 0, 1) := by decide +kernel
theorem dL_settle_54 : decode cL_settle 54 = .ok (.bipush 8, 2) := by decide +kernel
theorem dL_settle_56 : decode cL_settle 56 = .ok (.iload 9, 2) := by decide +kernel
theorem dL_settle_58 : decode cL_settle 58 = .ok (.iconst 2, 1) := by decide +kernel
theorem dL_settle_59 : decode cL_settle 59 = .ok (.idiv, 1) := by decide +kernel
theorem dL_settle_60 : decode cL_settle 60 = .ok (.imul, 1) := by decide +kernel
theorem dL_settle_61 : decode cL_settle 61 = .ok (.iconst 3, 1) := by decide +kernel
theorem dL_settle_62 : decode cL_settle 62 = .ok (.iadd, 1) := by decide +kernel
theorem dL_settle_63 : decode cL_settle 63 = .ok (.iload 9, 2) := by decide +kernel
theorem dL_settle_65 : decode cL_settle 65 = .ok (.iconst 2, 1) := by decide +kernel
theorem dL_settle_66 : decode cL_settle 66 = .ok (.irem, 1) := by decide +kernel
theorem dL_settle_67 : decode cL_settle 67 = .ok (.iadd, 1) := by decide +kernel
theorem dL_settle_68 : decode cL_settle 68 = .ok (.iaload, 1) := by decide +kernel
theorem dL_settle_69 : decode cL_settle 69 = .ok (.if_icmp .le 39, 3) := by decide +kernel
theorem dL_settle_72 : decode cL_settle 72 = .ok (.iload 8, 2) := by decide +kernel
theorem dL_settle_74 : decode cL_settle 74 = .ok (.ifCond .lt 30, 3) := by decide +kernel
theorem dL_settle_77 : decode cL_settle 77 = .ok (.aload_n 0, 1) := by decide +kernel
theorem dL_settle_78 : decode cL_settle 78 = .ok (.bipush 8, 2) := by decide +kernel
theorem dL_settle_80 : decode cL_settle 80 = .ok (.iload 9, 2) := by decide +kernel
theorem dL_settle_82 : decode cL_settle 82 = .ok (.iconst 2, 1) := by decide +kernel
theorem dL_settle_83 : decode cL_settle 83 = .ok (.idiv, 1) := by decide +kernel
theorem dL_settle_84 : decode cL_settle 84 = .ok (.imul, 1) := by decide +kernel
theorem dL_settle_85 : decode cL_settle 85 = .ok (.bipush 7, 2) := by decide +kernel
theorem dL_settle_87 : decode cL_settle 87 = .ok (.iadd, 1) := by decide +kernel
theorem dL_settle_88 : decode cL_settle 88 = .ok (.iaload, 1) := by decide +kernel
theorem dL_settle_89 : decode cL_settle 89 = .ok (.aload_n 0, 1) := by decide +kernel
theorem dL_settle_90 : decode cL_settle 90 = .ok (.bipush 8, 2) := by decide +kernel
theorem dL_settle_92 : decode cL_settle 92 = .ok (.iload 8, 2) := by decide +kernel
theorem dL_settle_94 : decode cL_settle 94 = .ok (.iconst 2, 1) := by decide +kernel
theorem dL_settle_95 : decode cL_settle 95 = .ok (.idiv, 1) := by decide +kernel
theorem dL_settle_96 : decode cL_settle 96 = .ok (.imul, 1) := by decide +kernel
theorem dL_settle_97 : decode cL_settle 97 = .ok (.bipush 7, 2) := by decide +kernel
theorem dL_settle_99 : decode cL_settle 99 = .ok (.iadd, 1) := by decide +kernel
theorem dL_settle_100 : decode cL_settle 100 = .ok (.iaload, 1) := by decide +kernel
theorem dL_settle_101 : decode cL_settle 101 = .ok (.if_icmp .lt 7, 3) := by decide +kernel
theorem dL_settle_104 : decode cL_settle 104 = .ok (.iload 9, 2) := by decide +kernel
theorem dL_settle_106 : decode cL_settle 106 = .ok (.istore 8, 2) := by decide +kernel
theorem dL_settle_108 : decode cL_settle 108 = .ok (.iinc 9 (-1), 3) := by decide +kernel
theorem dL_settle_111 : decode cL_settle 111 = .ok (.goto (-78), 3) := by decide +kernel
theorem dL_settle_114 : decode cL_settle 114 = .ok (.iload 8, 2) := by decide +kernel
theorem dL_settle_116 : decode cL_settle 116 = .ok (.ifCond .ge 6, 3) := by decide +kernel
theorem dL_settle_119 : decode cL_settle 119 = .ok (.iload 7, 2) := by decide +kernel
theorem dL_settle_121 : decode cL_settle 121 = .ok (.ireturn, 1) := by decide +kernel
theorem dL_settle_122 : decode cL_settle 122 = .ok (.aload_n 0, 1) := by decide +kernel
theorem dL_settle_123 : decode cL_settle 123 = .ok (.bipush 8, 2) := by decide +kernel
theorem dL_settle_125 : decode cL_settle 125 = .ok (.iload 8, 2) := by decide +kernel
theorem dL_settle_127 : decode cL_settle 127 = .ok (.iconst 2, 1) := by decide +kernel
theorem dL_settle_128 : decode cL_settle 128 = .ok (.idiv, 1) := by decide +kernel
theorem dL_settle_129 : decode cL_settle 129 = .ok (.imul, 1) := by decide +kernel
theorem dL_settle_130 : decode cL_settle 130 = .ok (.iconst 5, 1) := by decide +kernel
theorem dL_settle_131 : decode cL_settle 131 = .ok (.iadd, 1) := by decide +kernel
theorem dL_settle_132 : decode cL_settle 132 = .ok (.iload 8, 2) := by decide +kernel
theorem dL_settle_134 : decode cL_settle 134 = .ok (.iconst 2, 1) := by decide +kernel
theorem dL_settle_135 : decode cL_settle 135 = .ok (.irem, 1) := by decide +kernel
theorem dL_settle_136 : decode cL_settle 136 = .ok (.iadd, 1) := by decide +kernel
theorem dL_settle_137 : decode cL_settle 137 = .ok (.iconst 1, 1) := by decide +kernel
theorem dL_settle_138 : decode cL_settle 138 = .ok (.iastore, 1) := by decide +kernel
theorem dL_settle_139 : decode cL_settle 139 = .ok (.aload_n 3, 1) := by decide +kernel
theorem dL_settle_140 : decode cL_settle 140 = .ok (.bipush 8, 2) := by decide +kernel
theorem dL_settle_142 : decode cL_settle 142 = .ok (.iload 7, 2) := by decide +kernel
theorem dL_settle_144 : decode cL_settle 144 = .ok (.ifCond .ne 8, 3) := by decide +kernel
theorem dL_settle_147 : decode cL_settle 147 = .ok (.iload 8, 2) := by decide +kernel
theorem dL_settle_149 : decode cL_settle 149 = .ok (.goto 7, 3) := by decide +kernel
theorem dL_settle_152 : decode cL_settle 152 = .ok (.aload_n 3, 1) := by decide +kernel
theorem dL_settle_153 : decode cL_settle 153 = .ok (.bipush 8, 2) := by decide +kernel
theorem dL_settle_155 : decode cL_settle 155 = .ok (.iaload, 1) := by decide +kernel
theorem dL_settle_156 : decode cL_settle 156 = .ok (.iastore, 1) := by decide +kernel
theorem dL_settle_157 : decode cL_settle 157 = .ok (.aload_n 3, 1) := by decide +kernel
theorem dL_settle_158 : decode cL_settle 158 = .ok (.iconst 4, 1) := by decide +kernel
theorem dL_settle_159 : decode cL_settle 159 = .ok (.dup2, 1) := by decide +kernel
theorem dL_settle_160 : decode cL_settle 160 = .ok (.iaload, 1) := by decide +kernel
theorem dL_settle_161 : decode cL_settle 161 = .ok (.iconst 1, 1) := by decide +kernel
theorem dL_settle_162 : decode cL_settle 162 = .ok (.iadd, 1) := by decide +kernel
theorem dL_settle_163 : decode cL_settle 163 = .ok (.iastore, 1) := by decide +kernel
theorem dL_settle_164 : decode cL_settle 164 = .ok (.iinc 7 1, 3) := by decide +kernel
theorem dL_settle_167 : decode cL_settle 167 = .ok (.goto (-159), 3) := by decide +kernel
theorem dL_burn_0 : decode cL_burn 0 = .ok (.iconst 0, 1) := by decide +kernel
theorem dL_burn_1 : decode cL_burn 1 = .ok (.istore 5, 2) := by decide +kernel
theorem dL_burn_3 : decode cL_burn 3 = .ok (.iconst 0, 1) := by decide +kernel
theorem dL_burn_4 : decode cL_burn 4 = .ok (.istore 6, 2) := by decide +kernel
theorem dL_burn_6 : decode cL_burn 6 = .ok (.iload 6, 2) := by decide +kernel
theorem dL_burn_8 : decode cL_burn 8 = .ok (.aload_n 2, 1) := by decide +kernel
theorem dL_burn_9 : decode cL_burn 9 = .ok (.iconst 1, 1) := by decide +kernel
theorem dL_burn_10 : decode cL_burn 10 = .ok (.iaload, 1) := by decide +kernel
theorem dL_burn_11 : decode cL_burn 11 = .ok (.if_icmp .ge 46, 3) := by decide +kernel
theorem dL_burn_14 : decode cL_burn 14 = .ok (.iload 5, 2) := by decide +kernel
theorem dL_burn_16 : decode cL_burn 16 = .ok (.iload 6, 2) := by decide +kernel
theorem dL_burn_18 : decode cL_burn 18 = .ok (.aload_n 0, 1) := by decide +kernel
theorem dL_burn_19 : decode cL_burn 19 = .ok (.aload_n 1, 1) := by decide +kernel
theorem dL_burn_20 : decode cL_burn 20 = .ok (.aload_n 3, 1) := by decide +kernel
theorem dL_burn_21 : decode cL_burn 21 = .ok (.invokestatic 8, 3) := by decide +kernel
theorem dL_burn_24 : decode cL_burn 24 = .ok (.ifCond .ne 23, 3) := by decide +kernel
theorem dL_burn_27 : decode cL_burn 27 = .ok (.iload 4, 2) := by decide +kernel
theorem dL_burn_29 : decode cL_burn 29 = .ok (.ifCond .eq 14, 3) := by decide +kernel
theorem dL_burn_32 : decode cL_burn 32 = .ok (.aload_n 1, 1) := by decide +kernel
theorem dL_burn_33 : decode cL_burn 33 = .ok (.iconst 3, 1) := by decide +kernel
theorem dL_burn_34 : decode cL_burn 34 = .ok (.iload 6, 2) := by decide +kernel
theorem dL_burn_36 : decode cL_burn 36 = .ok (.imul, 1) := by decide +kernel
theorem dL_burn_37 : decode cL_burn 37 = .ok (.iconst 1, 1) := by decide +kernel
theorem dL_burn_38 : decode cL_burn 38 = .ok (.iadd, 1) := by decide +kernel
theorem dL_burn_39 : decode cL_burn 39 = .ok (.iaload, 1) := by decide +kernel
theorem dL_burn_40 : decode cL_burn 40 = .ok (.goto 8, 3) := by decide +kernel
theorem dL_burn_43 : decode cL_burn 43 = .ok (.iconst 1, 1) := by decide +kernel
theorem dL_burn_44 : decode cL_burn 44 = .ok (.goto 4, 3) := by decide +kernel
theorem dL_burn_47 : decode cL_burn 47 = .ok (.iconst 0, 1) := by decide +kernel
theorem dL_burn_48 : decode cL_burn 48 = .ok (.iadd, 1) := by decide +kernel
theorem dL_burn_49 : decode cL_burn 49 = .ok (.istore 5, 2) := by decide +kernel
theorem dL_burn_51 : decode cL_burn 51 = .ok (.iinc 6 1, 3) := by decide +kernel
theorem dL_burn_54 : decode cL_burn 54 = .ok (.goto (-48), 3) := by decide +kernel
theorem dL_burn_57 : decode cL_burn 57 = .ok (.iload 5, 2) := by decide +kernel
theorem dL_burn_59 : decode cL_burn 59 = .ok (.ireturn, 1) := by decide +kernel
theorem dL_ahead_0 : decode cL_ahead 0 = .ok (.bipush 56, 2) := by decide +kernel
theorem dL_ahead_2 : decode cL_ahead 2 = .ok (.newarray .int, 2) := by decide +kernel
theorem dL_ahead_4 : decode cL_ahead 4 = .ok (.astore 7, 2) := by decide +kernel
theorem dL_ahead_6 : decode cL_ahead 6 = .ok (.bipush 18, 2) := by decide +kernel
theorem dL_ahead_8 : decode cL_ahead 8 = .ok (.newarray .int, 2) := by decide +kernel
theorem dL_ahead_10 : decode cL_ahead 10 = .ok (.astore 8, 2) := by decide +kernel
theorem dL_ahead_12 : decode cL_ahead 12 = .ok (.bipush 9, 2) := by decide +kernel
theorem dL_ahead_14 : decode cL_ahead 14 = .ok (.newarray .int, 2) := by decide +kernel
theorem dL_ahead_16 : decode cL_ahead 16 = .ok (.astore 9, 2) := by decide +kernel
theorem dL_ahead_18 : decode cL_ahead 18 = .ok (.bipush 14, 2) := by decide +kernel
theorem dL_ahead_20 : decode cL_ahead 20 = .ok (.newarray .int, 2) := by decide +kernel
theorem dL_ahead_22 : decode cL_ahead 22 = .ok (.astore 10, 2) := by decide +kernel
theorem dL_ahead_24 : decode cL_ahead 24 = .ok (.bipush 14, 2) := by decide +kernel
theorem dL_ahead_26 : decode cL_ahead 26 = .ok (.newarray .int, 2) := by decide +kernel
theorem dL_ahead_28 : decode cL_ahead 28 = .ok (.astore 11, 2) := by decide +kernel
theorem dL_ahead_30 : decode cL_ahead 30 = .ok (.bipush 6, 2) := by decide +kernel
theorem dL_ahead_32 : decode cL_ahead 32 = .ok (.newarray .int, 2) := by decide +kernel
theorem dL_ahead_34 : decode cL_ahead 34 = .ok (.astore 12, 2) := by decide +kernel
theorem dL_ahead_36 : decode cL_ahead 36 = .ok (.iconst 0, 1) := by decide +kernel
theorem dL_ahead_37 : decode cL_ahead 37 = .ok (.istore 13, 2) := by decide +kernel
theorem dL_ahead_39 : decode cL_ahead 39 = .ok (.iload 13, 2) := by decide +kernel
theorem dL_ahead_41 : decode cL_ahead 41 = .ok (.iconst 5, 1) := by decide +kernel
theorem dL_ahead_42 : decode cL_ahead 42 = .ok (.if_icmp .ge 638, 3) := by decide +kernel
theorem dL_ahead_45 : decode cL_ahead 45 = .ok (.iconst 0, 1) := by decide +kernel
theorem dL_ahead_46 : decode cL_ahead 46 = .ok (.istore 14, 2) := by decide +kernel
theorem dL_ahead_48 : decode cL_ahead 48 = .ok (.iload 14, 2) := by decide +kernel
theorem dL_ahead_50 : decode cL_ahead 50 = .ok (.bipush 56, 2) := by decide +kernel
theorem dL_ahead_52 : decode cL_ahead 52 = .ok (.if_icmp .ge 52, 3) := by decide +kernel
theorem dL_ahead_55 : decode cL_ahead 55 = .ok (.aload 7, 2) := by decide +kernel
theorem dL_ahead_57 : decode cL_ahead 57 = .ok (.iload 14, 2) := by decide +kernel
theorem dL_ahead_59 : decode cL_ahead 59 = .ok (.aload_n 3, 1) := by decide +kernel
theorem dL_ahead_60 : decode cL_ahead 60 = .ok (.iload 14, 2) := by decide +kernel
theorem dL_ahead_62 : decode cL_ahead 62 = .ok (.iaload, 1) := by decide +kernel
theorem dL_ahead_63 : decode cL_ahead 63 = .ok (.iastore, 1) := by decide +kernel
theorem dL_ahead_64 : decode cL_ahead 64 = .ok (.iload 14, 2) := by decide +kernel
theorem dL_ahead_66 : decode cL_ahead 66 = .ok (.bipush 18, 2) := by decide +kernel
theorem dL_ahead_68 : decode cL_ahead 68 = .ok (.if_icmp .ge 13, 3) := by decide +kernel
theorem dL_ahead_71 : decode cL_ahead 71 = .ok (.aload 8, 2) := by decide +kernel
theorem dL_ahead_73 : decode cL_ahead 73 = .ok (.iload 14, 2) := by decide +kernel
theorem dL_ahead_75 : decode cL_ahead 75 = .ok (.aload 5, 2) := by decide +kernel
theorem dL_ahead_77 : decode cL_ahead 77 = .ok (.iload 14, 2) := by decide +kernel
theorem dL_ahead_79 : decode cL_ahead 79 = .ok (.iaload, 1) := by decide +kernel
theorem dL_ahead_80 : decode cL_ahead 80 = .ok (.iastore, 1) := by decide +kernel
theorem dL_ahead_81 : decode cL_ahead 81 = .ok (.iload 14, 2) := by decide +kernel
theorem dL_ahead_83 : decode cL_ahead 83 = .ok (.bipush 9, 2) := by decide +kernel
theorem dL_ahead_85 : decode cL_ahead 85 = .ok (.if_icmp .ge 13, 3) := by decide +kernel
theorem dL_ahead_88 : decode cL_ahead 88 = .ok (.aload 9, 2) := by decide +kernel
theorem dL_ahead_90 : decode cL_ahead 90 = .ok (.iload 14, 2) := by decide +kernel
theorem dL_ahead_92 : decode cL_ahead 92 = .ok (.aload 6, 2) := by decide +kernel
theorem dL_ahead_94 : decode cL_ahead 94 = .ok (.iload 14, 2) := by decide +kernel
theorem dL_ahead_96 : decode cL_ahead 96 = .ok (.iaload, 1) := by decide +kernel
theorem dL_ahead_97 : decode cL_ahead 97 = .ok (.iastore, 1) := by decide +kernel
theorem dL_ahead_98 : decode cL_ahead 98 = .ok (.iinc 14 1, 3) := by decide +kernel
theorem dL_ahead_101 : decode cL_ahead 101 = .ok (.goto (-53), 3) := by decide +kernel
theorem dL_ahead_104 : decode cL_ahead 104 = .ok (.iload_n 1, 1) := by decide +kernel
theorem dL_ahead_105 : decode cL_ahead 105 = .ok (.aload 6, 2) := by decide +kernel
theorem dL_ahead_107 : decode cL_ahead 107 = .ok (.iconst 0, 1) := by decide +kernel
theorem dL_ahead_108 : decode cL_ahead 108 = .ok (.iaload, 1) := by decide +kernel
theorem dL_ahead_109 : decode cL_ahead 109 = .ok (.invokestatic 51, 3) := by decide +kernel
theorem dL_ahead_112 : decode cL_ahead 112 = .ok (.istore 14, 2) := by decide +kernel
theorem dL_ahead_114 : decode cL_ahead 114 = .ok (.iload_n 1, 1) := by decide +kernel
theorem dL_ahead_115 : decode cL_ahead 115 = .ok (.iconst 4, 1) := by decide +kernel
theorem dL_ahead_116 : decode cL_ahead 116 = .ok (.ishr, 1) := by decide +kernel
theorem dL_ahead_117 : decode cL_ahead 117 = .ok (.iconst 2, 1) := by decide +kernel
theorem dL_ahead_118 : decode cL_ahead 118 = .ok (.invokestatic 51, 3) := by decide +kernel
theorem dL_ahead_121 : decode cL_ahead 121 = .ok (.istore 15, 2) := by decide +kernel
theorem dL_ahead_123 : decode cL_ahead 123 = .ok (.iconst 1, 1) := by decide +kernel
theorem dL_ahead_124 : decode cL_ahead 124 = .ok (.iload_n 2, 1) := by decide +kernel
theorem dL_ahead_125 : decode cL_ahead 125 = .ok (.bipush 30, 2) := by decide +kernel
theorem dL_ahead_127 : decode cL_ahead 127 = .ok (.invokestatic 51, 3) := by decide +kernel
theorem dL_ahead_130 : decode cL_ahead 130 = .ok (.iadd, 1) := by decide +kernel
theorem dL_ahead_131 : decode cL_ahead 131 = .ok (.istore 16, 2) := by decide +kernel
theorem dL_ahead_133 : decode cL_ahead 133 = .ok (.iload 13, 2) := by decide +kernel
theorem dL_ahead_135 : decode cL_ahead 135 = .ok (.iconst 2, 1) := by decide +kernel
theorem dL_ahead_136 : decode cL_ahead 136 = .ok (.if_icmp .ge 210, 3) := by decide +kernel
theorem dL_ahead_139 : decode cL_ahead 139 = .ok (.aload 8, 2) := by decide +kernel
theorem dL_ahead_141 : decode cL_ahead 141 = .ok (.iconst 3, 1) := by decide +kernel
theorem dL_ahead_142 : decode cL_ahead 142 = .ok (.aload 6, 2) := by decide +kernel
theorem dL_ahead_144 : decode cL_ahead 144 = .ok (.iconst 2, 1) := by decide +kernel
theorem dL_ahead_145 : decode cL_ahead 145 = .ok (.iaload, 1) := by decide +kernel
theorem dL_ahead_146 : decode cL_ahead 146 = .ok (.imul, 1) := by decide +kernel
theorem dL_ahead_147 : decode cL_ahead 147 = .ok (.iload 14, 2) := by decide +kernel
theorem dL_ahead_149 : decode cL_ahead 149 = .ok (.iastore, 1) := by decide +kernel
theorem dL_ahead_150 : decode cL_ahead 150 = .ok (.aload 8, 2) := by decide +kernel
theorem dL_ahead_152 : decode cL_ahead 152 = .ok (.iconst 3, 1) := by decide +kernel
theorem dL_ahead_153 : decode cL_ahead 153 = .ok (.aload 6, 2) := by decide +kernel
theorem dL_ahead_155 : decode cL_ahead 155 = .ok (.iconst 2, 1) := by decide +kernel
theorem dL_ahead_156 : decode cL_ahead 156 = .ok (.iaload, 1) := by decide +kernel
theorem dL_ahead_157 : decode cL_ahead 157 = .ok (.imul, 1) := by decide +kernel
theorem dL_ahead_158 : decode cL_ahead 158 = .ok (.iconst 1, 1) := by decide +kernel
theorem dL_ahead_159 : decode cL_ahead 159 = .ok (.iadd, 1) := by decide +kernel
theorem dL_ahead_160 : decode cL_ahead 160 = .ok (.iload 15, 2) := by decide +kernel
theorem dL_ahead_162 : decode cL_ahead 162 = .ok (.iastore, 1) := by decide +kernel
theorem dL_ahead_163 : decode cL_ahead 163 = .ok (.aload 8, 2) := by decide +kernel
theorem dL_ahead_165 : decode cL_ahead 165 = .ok (.iconst 3, 1) := by decide +kernel
theorem dL_ahead_166 : decode cL_ahead 166 = .ok (.aload 6, 2) := by decide +kernel
theorem dL_ahead_168 : decode cL_ahead 168 = .ok (.iconst 2, 1) := by decide +kernel
theorem dL_ahead_169 : decode cL_ahead 169 = .ok (.iaload, 1) := by decide +kernel
theorem dL_ahead_170 : decode cL_ahead 170 = .ok (.imul, 1) := by decide +kernel
theorem dL_ahead_171 : decode cL_ahead 171 = .ok (.iconst 2, 1) := by decide +kernel
theorem dL_ahead_172 : decode cL_ahead 172 = .ok (.iadd, 1) := by decide +kernel
theorem dL_ahead_173 : decode cL_ahead 173 = .ok (.iload 16, 2) := by decide +kernel
theorem dL_ahead_175 : decode cL_ahead 175 = .ok (.iastore, 1) := by decide +kernel
theorem dL_ahead_176 : decode cL_ahead 176 = .ok (.aload 9, 2) := by decide +kernel
theorem dL_ahead_178 : decode cL_ahead 178 = .ok (.iconst 2, 1) := by decide +kernel
theorem dL_ahead_179 : decode cL_ahead 179 = .ok (.dup2, 1) := by decide +kernel
theorem dL_ahead_180 : decode cL_ahead 180 = .ok (.iaload, 1) := by decide +kernel
theorem dL_ahead_181 : decode cL_ahead 181 = .ok (.iconst 1, 1) := by decide +kernel
theorem dL_ahead_182 : decode cL_ahead 182 = .ok (.iadd, 1) := by decide +kernel
theorem dL_ahead_183 : decode cL_ahead 183 = .ok (.iastore, 1) := by decide +kernel
theorem dL_ahead_184 : decode cL_ahead 184 = .ok (.aload 7, 2) := by decide +kernel
theorem dL_ahead_186 : decode cL_ahead 186 = .ok (.aload 4, 2) := by decide +kernel
theorem dL_ahead_188 : decode cL_ahead 188 = .ok (.aload 8, 2) := by decide +kernel
theorem dL_ahead_190 : decode cL_ahead 190 = .ok (.aload 9, 2) := by decide +kernel
theorem dL_ahead_192 : decode cL_ahead 192 = .ok (.aload 10, 2) := by decide +kernel
theorem dL_ahead_194 : decode cL_ahead 194 = .ok (.aload 11, 2) := by decide +kernel
theorem dL_ahead_196 : decode cL_ahead 196 = .ok (.aload 12, 2) := by decide +kernel
theorem dL_ahead_198 : decode cL_ahead 198 = .ok (.invokestatic 54, 3) := by decide +kernel
theorem dL_ahead_201 : decode cL_ahead 201 = .ok (.istore 17, 2) := by decide +kernel
theorem dL_ahead_203 : decode cL_ahead 203 = .ok (.iconst 0, 1) := by decide +kernel
theorem dL_ahead_204 : decode cL_ahead 204 = .ok (.aload 8, 2) := by decide +kernel
theorem dL_ahead_206 : decode cL_ahead 206 = .ok (.aload 9, 2) := by decide +kernel
theorem dL_ahead_208 : decode cL_ahead 208 = .ok (.aload 10, 2) := by decide +kernel
theorem dL_ahead_210 : decode cL_ahead 210 = .ok (.invokestatic 14, 3) := by decide +kernel
theorem dL_ahead_213 : decode cL_ahead 213 = .ok (.istore 18, 2) := by decide +kernel
theorem dL_ahead_215 : decode cL_ahead 215 = .ok (.iconst 1, 1) := by decide +kernel
theorem dL_ahead_216 : decode cL_ahead 216 = .ok (.aload 8, 2) := by decide +kernel
theorem dL_ahead_218 : decode cL_ahead 218 = .ok (.aload 9, 2) := by decide +kernel
theorem dL_ahead_220 : decode cL_ahead 220 = .ok (.aload 10, 2) := by decide +kernel
theorem dL_ahead_222 : decode cL_ahead 222 = .ok (.invokestatic 14, 3) := by decide +kernel
theorem dL_ahead_225 : decode cL_ahead 225 = .ok (.istore 19, 2) := by decide +kernel
theorem dL_ahead_227 : decode cL_ahead 227 = .ok (.aload_n 0, 1) := by decide +kernel
theorem dL_ahead_228 : decode cL_ahead 228 = .ok (.iload 14, 2) := by decide +kernel
theorem dL_ahead_230 : decode cL_ahead 230 = .ok (.iload 15, 2) := by decide +kernel
theorem dL_ahead_232 : decode cL_ahead 232 = .ok (.iload 16, 2) := by decide +kernel
theorem dL_ahead_234 : decode cL_ahead 234 = .ok (.iconst 0, 1) := by decide +kernel
theorem dL_ahead_235 : decode cL_ahead 235 = .ok (.invokevirtual 58, 3) := by decide +kernel
theorem dL_ahead_238 : decode cL_ahead 238 = .ok (.iload 17, 2) := by decide +kernel
theorem dL_ahead_240 : decode cL_ahead 240 = .ok (.if_icmp .ne 104, 3) := by decide +kernel
theorem dL_ahead_243 : decode cL_ahead 243 = .ok (.aload_n 0, 1) := by decide +kernel
theorem dL_ahead_244 : decode cL_ahead 244 = .ok (.iload 14, 2) := by decide +kernel
theorem dL_ahead_246 : decode cL_ahead 246 = .ok (.iload 15, 2) := by decide +kernel
theorem dL_ahead_248 : decode cL_ahead 248 = .ok (.iload 16, 2) := by decide +kernel
theorem dL_ahead_250 : decode cL_ahead 250 = .ok (.iconst 1, 1) := by decide +kernel
theorem dL_ahead_251 : decode cL_ahead 251 = .ok (.invokevirtual 58, 3) := by decide +kernel
theorem dL_ahead_254 : decode cL_ahead 254 = .ok (.aload 7, 2) := by decide +kernel
theorem dL_ahead_256 : decode cL_ahead 256 = .ok (.aload 4, 2) := by decide +kernel
theorem dL_ahead_258 : decode cL_ahead 258 = .ok (.aload 9, 2) := by decide +kernel
theorem dL_ahead_260 : decode cL_ahead 260 = .ok (.aload 10, 2) := by decide +kernel
theorem dL_ahead_262 : decode cL_ahead 262 = .ok (.iconst 0, 1) := by decide +kernel
theorem dL_ahead_263 : decode cL_ahead 263 = .ok (.invokestatic 47, 3) := by decide +kernel
theorem dL_ahead_266 : decode cL_ahead 266 = .ok (.if_icmp .ne 78, 3) := by decide +kernel
theorem dL_ahead_269 : decode cL_ahead 269 = .ok (.aload_n 0, 1) := by decide +kernel
theorem dL_ahead_270 : decode cL_ahead 270 = .ok (.iload 14, 2) := by decide +kernel
theorem dL_ahead_272 : decode cL_ahead 272 = .ok (.iload 15, 2) := by decide +kernel
theorem dL_ahead_274 : decode cL_ahead 274 = .ok (.iload 16, 2) := by decide +kernel
theorem dL_ahead_276 : decode cL_ahead 276 = .ok (.iconst 2, 1) := by decide +kernel
theorem dL_ahead_277 : decode cL_ahead 277 = .ok (.invokevirtual 58, 3) := by decide +kernel
theorem dL_ahead_280 : decode cL_ahead 280 = .ok (.iload 18, 2) := by decide +kernel
theorem dL_ahead_282 : decode cL_ahead 282 = .ok (.iload 19, 2) := by decide +kernel
theorem dL_ahead_284 : decode cL_ahead 284 = .ok (.if_icmp .ge 8, 3) := by decide +kernel
theorem dL_ahead_287 : decode cL_ahead 287 = .ok (.iload 18, 2) := by decide +kernel
theorem dL_ahead_289 : decode cL_ahead 289 = .ok (.goto 5, 3) := by decide +kernel
theorem dL_ahead_292 : decode cL_ahead 292 = .ok (.iload 19, 2) := by decide +kernel
theorem dL_ahead_294 : decode cL_ahead 294 = .ok (.if_icmp .ne 50, 3) := by decide +kernel
theorem dL_ahead_297 : decode cL_ahead 297 = .ok (.aload_n 0, 1) := by decide +kernel
theorem dL_ahead_298 : decode cL_ahead 298 = .ok (.iload 14, 2) := by decide +kernel
theorem dL_ahead_300 : decode cL_ahead 300 = .ok (.iload 15, 2) := by decide +kernel
theorem dL_ahead_302 : decode cL_ahead 302 = .ok (.iload 16, 2) := by decide +kernel
theorem dL_ahead_304 : decode cL_ahead 304 = .ok (.iconst 3, 1) := by decide +kernel
theorem dL_ahead_305 : decode cL_ahead 305 = .ok (.invokevirtual 58, 3) := by decide +kernel
theorem dL_ahead_308 : decode cL_ahead 308 = .ok (.aload 9, 2) := by decide +kernel
theorem dL_ahead_310 : decode cL_ahead 310 = .ok (.bipush 8, 2) := by decide +kernel
theorem dL_ahead_312 : decode cL_ahead 312 = .ok (.iaload, 1) := by decide +kernel
theorem dL_ahead_313 : decode cL_ahead 313 = .ok (.ifCond .ge 7, 3) := by decide +kernel
theorem dL_ahead_316 : decode cL_ahead 316 = .ok (.iconst (-1), 1) := by decide +kernel
theorem dL_ahead_317 : decode cL_ahead 317 = .ok (.goto 24, 3) := by decide +kernel
theorem dL_ahead_320 : decode cL_ahead 320 = .ok (.bipush 100, 2) := by decide +kernel
theorem dL_ahead_322 : decode cL_ahead 322 = .ok (.aload 9, 2) := by decide +kernel
theorem dL_ahead_324 : decode cL_ahead 324 = .ok (.bipush 8, 2) := by decide +kernel
theorem dL_ahead_326 : decode cL_ahead 326 = .ok (.iaload, 1) := by decide +kernel
theorem dL_ahead_327 : decode cL_ahead 327 = .ok (.iconst 2, 1) := by decide +kernel
theorem dL_ahead_328 : decode cL_ahead 328 = .ok (.idiv, 1) := by decide +kernel
theorem dL_ahead_329 : decode cL_ahead 329 = .ok (.imul, 1) := by decide +kernel
theorem dL_ahead_330 : decode cL_ahead 330 = .ok (.bipush 10, 2) := by decide +kernel
theorem dL_ahead_332 : decode cL_ahead 332 = .ok (.aload 9, 2) := by decide +kernel
theorem dL_ahead_334 : decode cL_ahead 334 = .ok (.bipush 8, 2) := by decide +kernel
theorem dL_ahead_336 : decode cL_ahead 336 = .ok (.iaload, 1) := by decide +kernel
theorem dL_ahead_337 : decode cL_ahead 337 = .ok (.iconst 2, 1) := by decide +kernel
theorem dL_ahead_338 : decode cL_ahead 338 = .ok (.irem, 1) := by decide +kernel
theorem dL_ahead_339 : decode cL_ahead 339 = .ok (.imul, 1) := by decide +kernel
theorem dL_ahead_340 : decode cL_ahead 340 = .ok (.iadd, 1) := by decide +kernel
theorem dL_ahead_341 : decode cL_ahead 341 = .ok (.if_icmp .eq 333, 3) := by decide +kernel
theorem dL_ahead_344 : decode cL_ahead 344 = .ok (.iconst 0, 1) := by decide +kernel
theorem dL_ahead_345 : decode cL_ahead 345 = .ok (.ireturn, 1) := by decide +kernel
theorem dL_ahead_346 : decode cL_ahead 346 = .ok (.iload 14, 2) := by decide +kernel
theorem dL_ahead_348 : decode cL_ahead 348 = .ok (.ifCond .ne 5, 3) := by decide +kernel
theorem dL_ahead_351 : decode cL_ahead 351 = .ok (.iconst 1, 1) := by decide +kernel
theorem dL_ahead_352 : decode cL_ahead 352 = .ok (.ireturn, 1) := by decide +kernel
theorem dL_ahead_353 : decode cL_ahead 353 = .ok (.iload 13, 2) := by decide +kernel
theorem dL_ahead_355 : decode cL_ahead 355 = .ok (.iconst 2, 1) := by decide +kernel
theorem dL_ahead_356 : decode cL_ahead 356 = .ok (.if_icmp .ne 66, 3) := by decide +kernel
theorem dL_ahead_359 : decode cL_ahead 359 = .ok (.aload 7, 2) := by decide +kernel
theorem dL_ahead_361 : decode cL_ahead 361 = .ok (.bipush 8, 2) := by decide +kernel
theorem dL_ahead_363 : decode cL_ahead 363 = .ok (.iload 14, 2) := by decide +kernel
theorem dL_ahead_365 : decode cL_ahead 365 = .ok (.imul, 1) := by decide +kernel
theorem dL_ahead_366 : decode cL_ahead 366 = .ok (.iconst 2, 1) := by decide +kernel
theorem dL_ahead_367 : decode cL_ahead 367 = .ok (.iadd, 1) := by decide +kernel
theorem dL_ahead_368 : decode cL_ahead 368 = .ok (.iconst 1, 1) := by decide +kernel
theorem dL_ahead_369 : decode cL_ahead 369 = .ok (.aload 7, 2) := by decide +kernel
theorem dL_ahead_371 : decode cL_ahead 371 = .ok (.bipush 8, 2) := by decide +kernel
theorem dL_ahead_373 : decode cL_ahead 373 = .ok (.iload 14, 2) := by decide +kernel
theorem dL_ahead_375 : decode cL_ahead 375 = .ok (.imul, 1) := by decide +kernel
theorem dL_ahead_376 : decode cL_ahead 376 = .ok (.iconst 2, 1) := by decide +kernel
theorem dL_ahead_377 : decode cL_ahead 377 = .ok (.iadd, 1) := by decide +kernel
theorem dL_ahead_378 : decode cL_ahead 378 = .ok (.iaload, 1) := by decide +kernel
theorem dL_ahead_379 : decode cL_ahead 379 = .ok (.isub, 1) := by decide +kernel
theorem dL_ahead_380 : decode cL_ahead 380 = .ok (.iastore, 1) := by decide +kernel
theorem dL_ahead_381 : decode cL_ahead 381 = .ok (.aload 7, 2) := by decide +kernel
theorem dL_ahead_383 : decode cL_ahead 383 = .ok (.aload 4, 2) := by decide +kernel
theorem dL_ahead_385 : decode cL_ahead 385 = .ok (.aload 8, 2) := by decide +kernel
theorem dL_ahead_387 : decode cL_ahead 387 = .ok (.aload 9, 2) := by decide +kernel
theorem dL_ahead_389 : decode cL_ahead 389 = .ok (.aload 10, 2) := by decide +kernel
theorem dL_ahead_391 : decode cL_ahead 391 = .ok (.aload 11, 2) := by decide +kernel
theorem dL_ahead_393 : decode cL_ahead 393 = .ok (.aload 12, 2) := by decide +kernel
theorem dL_ahead_395 : decode cL_ahead 395 = .ok (.invokestatic 54, 3) := by decide +kernel
theorem dL_ahead_398 : decode cL_ahead 398 = .ok (.pop, 1) := by decide +kernel
theorem dL_ahead_399 : decode cL_ahead 399 = .ok (.aload_n 0, 1) := by decide +kernel
theorem dL_ahead_400 : decode cL_ahead 400 = .ok (.iload 14, 2) := by decide +kernel
theorem dL_ahead_402 : decode cL_ahead 402 = .ok (.invokevirtual 62, 3) := by decide +kernel
theorem dL_ahead_405 : decode cL_ahead 405 = .ok (.aload 7, 2) := by decide +kernel
theorem dL_ahead_407 : decode cL_ahead 407 = .ok (.aload 4, 2) := by decide +kernel
theorem dL_ahead_409 : decode cL_ahead 409 = .ok (.aload 9, 2) := by decide +kernel
theorem dL_ahead_411 : decode cL_ahead 411 = .ok (.aload 10, 2) := by decide +kernel
theorem dL_ahead_413 : decode cL_ahead 413 = .ok (.iconst 0, 1) := by decide +kernel
theorem dL_ahead_414 : decode cL_ahead 414 = .ok (.invokestatic 47, 3) := by decide +kernel
theorem dL_ahead_417 : decode cL_ahead 417 = .ok (.if_icmp .eq 257, 3) := by decide +kernel
theorem dL_ahead_420 : decode cL_ahead 420 = .ok (.iconst 0, 1) := by decide +kernel
theorem dL_ahead_421 : decode cL_ahead 421 = .ok (.ireturn, 1) := by decide +kernel
theorem dL_ahead_422 : decode cL_ahead 422 = .ok (.iload 13, 2) := by decide +kernel
theorem dL_ahead_424 : decode cL_ahead 424 = .ok (.iconst 3, 1) := by decide +kernel
theorem dL_ahead_425 : decode cL_ahead 425 = .ok (.if_icmp .ne 102, 3) := by decide +kernel
theorem dL_ahead_428 : decode cL_ahead 428 = .ok (.iconst 1, 1) := by decide +kernel
theorem dL_ahead_429 : decode cL_ahead 429 = .ok (.istore 17, 2) := by decide +kernel
theorem dL_ahead_431 : decode cL_ahead 431 = .ok (.iload 17, 2) := by decide +kernel
theorem dL_ahead_433 : decode cL_ahead 433 = .ok (.aload 6, 2) := by decide +kernel
theorem dL_ahead_435 : decode cL_ahead 435 = .ok (.iconst 0, 1) := by decide +kernel
theorem dL_ahead_436 : decode cL_ahead 436 = .ok (.iaload, 1) := by decide +kernel
theorem dL_ahead_437 : decode cL_ahead 437 = .ok (.if_icmp .ge 32, 3) := by decide +kernel
theorem dL_ahead_440 : decode cL_ahead 440 = .ok (.aload 7, 2) := by decide +kernel
theorem dL_ahead_442 : decode cL_ahead 442 = .ok (.bipush 8, 2) := by decide +kernel
theorem dL_ahead_444 : decode cL_ahead 444 = .ok (.iload 17, 2) := by decide +kernel
theorem dL_ahead_446 : decode cL_ahead 446 = .ok (.imul, 1) := by decide +kernel
theorem dL_ahead_447 : decode cL_ahead 447 = .ok (.iconst 5, 1) := by decide +kernel
theorem dL_ahead_448 : decode cL_ahead 448 = .ok (.iadd, 1) := by decide +kernel
theorem dL_ahead_449 : decode cL_ahead 449 = .ok (.iconst 0, 1) := by decide +kernel
theorem dL_ahead_450 : decode cL_ahead 450 = .ok (.iastore, 1) := by decide +kernel
theorem dL_ahead_451 : decode cL_ahead 451 = .ok (.aload 7, 2) := by decide +kernel
theorem dL_ahead_453 : decode cL_ahead 453 = .ok (.bipush 8, 2) := by decide +kernel
theorem dL_ahead_455 : decode cL_ahead 455 = .ok (.iload 17, 2) := by decide +kernel
theorem dL_ahead_457 : decode cL_ahead 457 = .ok (.imul, 1) := by decide +kernel
theorem dL_ahead_458 : decode cL_ahead 458 = .ok (.bipush 6, 2) := by decide +kernel
theorem dL_ahead_460 : decode cL_ahead 460 = .ok (.iadd, 1) := by decide +kernel
theorem dL_ahead_461 : decode cL_ahead 461 = .ok (.iconst 0, 1) := by decide +kernel
theorem dL_ahead_462 : decode cL_ahead 462 = .ok (.iastore, 1) := by decide +kernel
theorem dL_ahead_463 : decode cL_ahead 463 = .ok (.iinc 17 1, 3) := by decide +kernel
theorem dL_ahead_466 : decode cL_ahead 466 = .ok (.goto (-35), 3) := by decide +kernel
theorem dL_ahead_469 : decode cL_ahead 469 = .ok (.aload 7, 2) := by decide +kernel
theorem dL_ahead_471 : decode cL_ahead 471 = .ok (.aload 4, 2) := by decide +kernel
theorem dL_ahead_473 : decode cL_ahead 473 = .ok (.aload 8, 2) := by decide +kernel
theorem dL_ahead_475 : decode cL_ahead 475 = .ok (.aload 9, 2) := by decide +kernel
theorem dL_ahead_477 : decode cL_ahead 477 = .ok (.aload 10, 2) := by decide +kernel
theorem dL_ahead_479 : decode cL_ahead 479 = .ok (.aload 11, 2) := by decide +kernel
theorem dL_ahead_481 : decode cL_ahead 481 = .ok (.aload 12, 2) := by decide +kernel
theorem dL_ahead_483 : decode cL_ahead 483 = .ok (.invokestatic 17, 3) := by decide +kernel
theorem dL_ahead_486 : decode cL_ahead 486 = .ok (.aload_n 0, 1) := by decide +kernel
theorem dL_ahead_487 : decode cL_ahead 487 = .ok (.iload 14, 2) := by decide +kernel
theorem dL_ahead_489 : decode cL_ahead 489 = .ok (.iload 15, 2) := by decide +kernel
theorem dL_ahead_491 : decode cL_ahead 491 = .ok (.invokevirtual 65, 3) := by decide +kernel
theorem dL_ahead_494 : decode cL_ahead 494 = .ok (.aload 10, 2) := by decide +kernel
theorem dL_ahead_496 : decode cL_ahead 496 = .ok (.iconst 2, 1) := by decide +kernel
theorem dL_ahead_497 : decode cL_ahead 497 = .ok (.iload 14, 2) := by decide +kernel
theorem dL_ahead_499 : decode cL_ahead 499 = .ok (.imul, 1) := by decide +kernel
theorem dL_ahead_500 : decode cL_ahead 500 = .ok (.iload 15, 2) := by decide +kernel
theorem dL_ahead_502 : decode cL_ahead 502 = .ok (.iadd, 1) := by decide +kernel
theorem dL_ahead_503 : decode cL_ahead 503 = .ok (.iaload, 1) := by decide +kernel
theorem dL_ahead_504 : decode cL_ahead 504 = .ok (.iconst 1, 1) := by decide +kernel
theorem dL_ahead_505 : decode cL_ahead 505 = .ok (.if_icmp .le 16, 3) := by decide +kernel
theorem dL_ahead_508 : decode cL_ahead 508 = .ok (.aload 11, 2) := by decide +kernel
theorem dL_ahead_510 : decode cL_ahead 510 = .ok (.iconst 2, 1) := by decide +kernel
theorem dL_ahead_511 : decode cL_ahead 511 = .ok (.iload 14, 2) := by decide +kernel
theorem dL_ahead_513 : decode cL_ahead 513 = .ok (.imul, 1) := by decide +kernel
theorem dL_ahead_514 : decode cL_ahead 514 = .ok (.iload 15, 2) := by decide +kernel
theorem dL_ahead_516 : decode cL_ahead 516 = .ok (.iadd, 1) := by decide +kernel
theorem dL_ahead_517 : decode cL_ahead 517 = .ok (.iaload, 1) := by decide +kernel
theorem dL_ahead_518 : decode cL_ahead 518 = .ok (.goto 4, 3) := by decide +kernel
theorem dL_ahead_521 : decode cL_ahead 521 = .ok (.iconst 0, 1) := by decide +kernel
theorem dL_ahead_522 : decode cL_ahead 522 = .ok (.if_icmp .eq 152, 3) := by decide +kernel
theorem dL_ahead_525 : decode cL_ahead 525 = .ok (.iconst 0, 1) := by decide +kernel
theorem dL_ahead_526 : decode cL_ahead 526 = .ok (.ireturn, 1) := by decide +kernel
theorem dL_ahead_527 : decode cL_ahead 527 = .ok (.aload 7, 2) := by decide +kernel
theorem dL_ahead_529 : decode cL_ahead 529 = .ok (.aload 4, 2) := by decide +kernel
theorem dL_ahead_531 : decode cL_ahead 531 = .ok (.aload 8, 2) := by decide +kernel
theorem dL_ahead_533 : decode cL_ahead 533 = .ok (.aload 9, 2) := by decide +kernel
theorem dL_ahead_535 : decode cL_ahead 535 = .ok (.aload 10, 2) := by decide +kernel
theorem dL_ahead_537 : decode cL_ahead 537 = .ok (.aload 11, 2) := by decide +kernel
theorem dL_ahead_539 : decode cL_ahead 539 = .ok (.aload 12, 2) := by decide +kernel
theorem dL_ahead_541 : decode cL_ahead 541 = .ok (.invokestatic 17, 3) := by decide +kernel
theorem dL_ahead_544 : decode cL_ahead 544 = .ok (.iload 15, 2) := by decide +kernel
theorem dL_ahead_546 : decode cL_ahead 546 = .ok (.aload 8, 2) := by decide +kernel
theorem dL_ahead_548 : decode cL_ahead 548 = .ok (.aload 9, 2) := by decide +kernel
theorem dL_ahead_550 : decode cL_ahead 550 = .ok (.aload 10, 2) := by decide +kernel
theorem dL_ahead_552 : decode cL_ahead 552 = .ok (.invokestatic 14, 3) := by decide +kernel
theorem dL_ahead_555 : decode cL_ahead 555 = .ok (.istore 17, 2) := by decide +kernel
theorem dL_ahead_557 : decode cL_ahead 557 = .ok (.iconst 0, 1) := by decide +kernel
theorem dL_ahead_558 : decode cL_ahead 558 = .ok (.istore 18, 2) := by decide +kernel
theorem dL_ahead_560 : decode cL_ahead 560 = .ok (.iconst 1, 1) := by decide +kernel
theorem dL_ahead_561 : decode cL_ahead 561 = .ok (.istore 19, 2) := by decide +kernel
theorem dL_ahead_563 : decode cL_ahead 563 = .ok (.iload 19, 2) := by decide +kernel
theorem dL_ahead_565 : decode cL_ahead 565 = .ok (.aload 6, 2) := by decide +kernel
theorem dL_ahead_567 : decode cL_ahead 567 = .ok (.iconst 0, 1) := by decide +kernel
theorem dL_ahead_568 : decode cL_ahead 568 = .ok (.iaload, 1) := by decide +kernel
theorem dL_ahead_569 : decode cL_ahead 569 = .ok (.if_icmp .ge 92, 3) := by decide +kernel
theorem dL_ahead_572 : decode cL_ahead 572 = .ok (.aload_n 3, 1) := by decide +kernel
theorem dL_ahead_573 : decode cL_ahead 573 = .ok (.bipush 8, 2) := by decide +kernel
theorem dL_ahead_575 : decode cL_ahead 575 = .ok (.iload 19, 2) := by decide +kernel
theorem dL_ahead_577 : decode cL_ahead 577 = .ok (.imul, 1) := by decide +kernel
theorem dL_ahead_578 : decode cL_ahead 578 = .ok (.iconst 2, 1) := by decide +kernel
theorem dL_ahead_579 : decode cL_ahead 579 = .ok (.iadd, 1) := by decide +kernel
theorem dL_ahead_580 : decode cL_ahead 580 = .ok (.iaload, 1) := by decide +kernel
theorem dL_ahead_581 : decode cL_ahead 581 = .ok (.ifCond .ne 6, 3) := by decide +kernel
theorem dL_ahead_584 : decode cL_ahead 584 = .ok (.goto 71, 3) := by decide +kernel
theorem dL_ahead_587 : decode cL_ahead 587 = .ok (.aload 7, 2) := by decide +kernel
theorem dL_ahead_589 : decode cL_ahead 589 = .ok (.bipush 8, 2) := by decide +kernel
theorem dL_ahead_591 : decode cL_ahead 591 = .ok (.iload 19, 2) := by decide +kernel
theorem dL_ahead_593 : decode cL_ahead 593 = .ok (.imul, 1) := by decide +kernel
theorem dL_ahead_594 : decode cL_ahead 594 = .ok (.iconst 2, 1) := by decide +kernel
theorem dL_ahead_595 : decode cL_ahead 595 = .ok (.iadd, 1) := by decide +kernel
theorem dL_ahead_596 : decode cL_ahead 596 = .ok (.iconst 0, 1) := by decide +kernel
theorem dL_ahead_597 : decode cL_ahead 597 = .ok (.iastore, 1) := by decide +kernel
theorem dL_ahead_598 : decode cL_ahead 598 = .ok (.aload 7, 2) := by decide +kernel
theorem dL_ahead_600 : decode cL_ahead 600 = .ok (.aload 4, 2) := by decide +kernel
theorem dL_ahead_602 : decode cL_ahead 602 = .ok (.aload 8, 2) := by decide +kernel
theorem dL_ahead_604 : decode cL_ahead 604 = .ok (.aload 9, 2) := by decide +kernel
theorem dL_ahead_606 : decode cL_ahead 606 = .ok (.aload 10, 2) := by decide +kernel
theorem dL_ahead_608 : decode cL_ahead 608 = .ok (.aload 11, 2) := by decide +kernel
theorem dL_ahead_610 : decode cL_ahead 610 = .ok (.aload 12, 2) := by decide +kernel
theorem dL_ahead_612 : decode cL_ahead 612 = .ok (.invokestatic 17, 3) := by decide +kernel
theorem dL_ahead_615 : decode cL_ahead 615 = .ok (.iload 18, 2) := by decide +kernel
theorem dL_ahead_617 : decode cL_ahead 617 = .ok (.iload 15, 2) := by decide +kernel
theorem dL_ahead_619 : decode cL_ahead 619 = .ok (.aload 8, 2) := by decide +kernel
theorem dL_ahead_621 : decode cL_ahead 621 = .ok (.aload 9, 2) := by decide +kernel
theorem dL_ahead_623 : decode cL_ahead 623 = .ok (.aload 10, 2) := by decide +kernel
theorem dL_ahead_625 : decode cL_ahead 625 = .ok (.invokestatic 14, 3) := by decide +kernel
theorem dL_ahead_628 : decode cL_ahead 628 = .ok (.iload 17, 2) := by decide +kernel
theorem dL_ahead_630 : decode cL_ahead 630 = .ok (.if_icmp .eq 10, 3) := by decide +kernel
theorem dL_ahead_633 : decode cL_ahead 633 = .ok (.iconst 1, 1) := by decide +kernel
theorem dL_ahead_634 : decode cL_ahead 634 = .ok (.iload 19, 2) := by decide +kernel
theorem dL_ahead_636 : decode cL_ahead 636 = .ok (.ishl, 1) := by decide +kernel
theorem dL_ahead_637 : decode cL_ahead 637 = .ok (.goto 4, 3) := by decide +kernel
theorem dL_ahead_640 : decode cL_ahead 640 = .ok (.iconst 0, 1) := by decide +kernel
theorem dL_ahead_641 : decode cL_ahead 641 = .ok (.ior, 1) := by decide +kernel
theorem dL_ahead_642 : decode cL_ahead 642 = .ok (.istore 18, 2) := by decide +kernel
theorem dL_ahead_644 : decode cL_ahead 644 = .ok (.aload 7, 2) := by decide +kernel
theorem dL_ahead_646 : decode cL_ahead 646 = .ok (.bipush 8, 2) := by decide +kernel
theorem dL_ahead_648 : decode cL_ahead 648 = .ok (.iload 19, 2) := by decide +kernel
theorem dL_ahead_650 : decode cL_ahead 650 = .ok (.imul, 1) := by decide +kernel
theorem dL_ahead_651 : decode cL_ahead 651 = .ok (.iconst 2, 1) := by decide +kernel
theorem dL_ahead_652 : decode cL_ahead 652 = .ok (.iadd, 1) := by decide +kernel
theorem dL_ahead_653 : decode cL_ahead 653 = .ok (.iconst 1, 1) := by decide +kernel
theorem dL_ahead_654 : decode cL_ahead 654 = .ok (.iastore, 1) := by decide +kernel
theorem dL_ahead_655 : decode cL_ahead 655 = .ok (.iinc 19 1, 3) := by decide +kernel
theorem dL_ahead_658 : decode cL_ahead 658 = .ok (.goto (-95), 3) := by decide +kernel
theorem dL_ahead_661 : decode cL_ahead 661 = .ok (.aload_n 0, 1) := by decide +kernel
theorem dL_ahead_662 : decode cL_ahead 662 = .ok (.iload 15, 2) := by decide +kernel
theorem dL_ahead_664 : decode cL_ahead 664 = .ok (.invokevirtual 68, 3) := by decide +kernel
theorem dL_ahead_667 : decode cL_ahead 667 = .ok (.iload 18, 2) := by decide +kernel
theorem dL_ahead_669 : decode cL_ahead 669 = .ok (.if_icmp .eq 5, 3) := by decide +kernel
theorem dL_ahead_672 : decode cL_ahead 672 = .ok (.iconst 0, 1) := by decide +kernel
theorem dL_ahead_673 : decode cL_ahead 673 = .ok (.ireturn, 1) := by decide +kernel
theorem dL_ahead_674 : decode cL_ahead 674 = .ok (.iinc 13 1, 3) := by decide +kernel
theorem dL_ahead_677 : decode cL_ahead 677 = .ok (.goto (-638), 3) := by decide +kernel
theorem dL_ahead_680 : decode cL_ahead 680 = .ok (.iconst 1, 1) := by decide +kernel
theorem dL_ahead_681 : decode cL_ahead 681 = .ok (.ireturn, 1) := by decide +kernel
theorem dL_act_0 : decode cL_act 0 = .ok (.iload_n 2, 1) := by decide +kernel
theorem dL_act_1 : decode cL_act 1 = .ok (.aload 7, 2) := by decide +kernel
theorem dL_act_3 : decode cL_act 3 = .ok (.iconst 0, 1) := by decide +kernel
theorem dL_act_4 : decode cL_act 4 = .ok (.iaload, 1) := by decide +kernel
theorem dL_act_5 : decode cL_act 5 = .ok (.invokestatic 51, 3) := by decide +kernel
theorem dL_act_8 : decode cL_act 8 = .ok (.istore 11, 2) := by decide +kernel
theorem dL_act_10 : decode cL_act 10 = .ok (.iload_n 1, 1) := by decide +kernel
theorem dL_act_11 : decode cL_act 11 = .ok (.iconst 3, 1) := by decide +kernel
theorem dL_act_12 : decode cL_act 12 = .ok (.if_icmp .ge 240, 3) := by decide +kernel
theorem dL_act_15 : decode cL_act 15 = .ok (.aload 7, 2) := by decide +kernel
theorem dL_act_17 : decode cL_act 17 = .ok (.iconst 0, 1) := by decide +kernel
theorem dL_act_18 : decode cL_act 18 = .ok (.iaload, 1) := by decide +kernel
theorem dL_act_19 : decode cL_act 19 = .ok (.bipush 7, 2) := by decide +kernel
theorem dL_act_21 : decode cL_act 21 = .ok (.if_icmp .ne 5, 3) := by decide +kernel
theorem dL_act_24 : decode cL_act 24 = .ok (.iconst 1, 1) := by decide +kernel
theorem dL_act_25 : decode cL_act 25 = .ok (.ireturn, 1) := by decide +kernel
theorem dL_act_26 : decode cL_act 26 = .ok (.bipush 8, 2) := by decide +kernel
theorem dL_act_28 : decode cL_act 28 = .ok (.aload 7, 2) := by decide +kernel
theorem dL_act_30 : decode cL_act 30 = .ok (.iconst 0, 1) := by decide +kernel
theorem dL_act_31 : decode cL_act 31 = .ok (.iaload, 1) := by decide +kernel
theorem dL_act_32 : decode cL_act 32 = .ok (.imul, 1) := by decide +kernel
theorem dL_act_33 : decode cL_act 33 = .ok (.istore 12, 2) := by decide +kernel
theorem dL_act_35 : decode cL_act 35 = .ok (.aload 4, 2) := by decide +kernel
theorem dL_act_37 : decode cL_act 37 = .ok (.iload 12, 2) := by decide +kernel
theorem dL_act_39 : decode cL_act 39 = .ok (.iload 11, 2) := by decide +kernel
theorem dL_act_41 : decode cL_act 41 = .ok (.iastore, 1) := by decide +kernel
theorem dL_act_42 : decode cL_act 42 = .ok (.aload 4, 2) := by decide +kernel
theorem dL_act_44 : decode cL_act 44 = .ok (.iload 12, 2) := by decide +kernel
theorem dL_act_46 : decode cL_act 46 = .ok (.iconst 1, 1) := by decide +kernel
theorem dL_act_47 : decode cL_act 47 = .ok (.iadd, 1) := by decide +kernel
theorem dL_act_48 : decode cL_act 48 = .ok (.iload_n 2, 1) := by decide +kernel
theorem dL_act_49 : decode cL_act 49 = .ok (.iconst 4, 1) := by decide +kernel
theorem dL_act_50 : decode cL_act 50 = .ok (.ishr, 1) := by decide +kernel
theorem dL_act_51 : decode cL_act 51 = .ok (.iconst 3, 1) := by decide +kernel
theorem dL_act_52 : decode cL_act 52 = .ok (.invokestatic 51, 3) := by decide +kernel
theorem dL_act_55 : decode cL_act 55 = .ok (.ifCond .ne 7, 3) := by decide +kernel
theorem dL_act_58 : decode cL_act 58 = .ok (.iconst 1, 1) := by decide +kernel
theorem dL_act_59 : decode cL_act 59 = .ok (.goto 4, 3) := by decide +kernel
theorem dL_act_62 : decode cL_act 62 = .ok (.iconst 0, 1) := by decide +kernel
theorem dL_act_63 : decode cL_act 63 = .ok (.iastore, 1) := by decide +kernel
theorem dL_act_64 : decode cL_act 64 = .ok (.aload 4, 2) := by decide +kernel
theorem dL_act_66 : decode cL_act 66 = .ok (.iload 12, 2) := by decide +kernel
theorem dL_act_68 : decode cL_act 68 = .ok (.iconst 2, 1) := by decide +kernel
theorem dL_act_69 : decode cL_act 69 = .ok (.iadd, 1) := by decide +kernel
theorem dL_act_70 : decode cL_act 70 = .ok (.iconst 1, 1) := by decide +kernel
theorem dL_act_71 : decode cL_act 71 = .ok (.iastore, 1) := by decide +kernel
theorem dL_act_72 : decode cL_act 72 = .ok (.aload 4, 2) := by decide +kernel
theorem dL_act_74 : decode cL_act 74 = .ok (.iload 12, 2) := by decide +kernel
theorem dL_act_76 : decode cL_act 76 = .ok (.iconst 3, 1) := by decide +kernel
theorem dL_act_77 : decode cL_act 77 = .ok (.iadd, 1) := by decide +kernel
theorem dL_act_78 : decode cL_act 78 = .ok (.iconst 1, 1) := by decide +kernel
theorem dL_act_79 : decode cL_act 79 = .ok (.iload_n 3, 1) := by decide +kernel
theorem dL_act_80 : decode cL_act 80 = .ok (.iload_n 2, 1) := by decide +kernel
theorem dL_act_81 : decode cL_act 81 = .ok (.bipush 6, 2) := by decide +kernel
theorem dL_act_83 : decode cL_act 83 = .ok (.ishr, 1) := by decide +kernel
theorem dL_act_84 : decode cL_act 84 = .ok (.iconst 3, 1) := by decide +kernel
theorem dL_act_85 : decode cL_act 85 = .ok (.invokestatic 51, 3) := by decide +kernel
theorem dL_act_88 : decode cL_act 88 = .ok (.ifCond .ne 8, 3) := by decide +kernel
theorem dL_act_91 : decode cL_act 91 = .ok (.bipush 60, 2) := by decide +kernel
theorem dL_act_93 : decode cL_act 93 = .ok (.goto 5, 3) := by decide +kernel
theorem dL_act_96 : decode cL_act 96 = .ok (.bipush 20, 2) := by decide +kernel
theorem dL_act_98 : decode cL_act 98 = .ok (.invokestatic 51, 3) := by decide +kernel
theorem dL_act_101 : decode cL_act 101 = .ok (.iadd, 1) := by decide +kernel
theorem dL_act_102 : decode cL_act 102 = .ok (.iastore, 1) := by decide +kernel
theorem dL_act_103 : decode cL_act 103 = .ok (.aload 4, 2) := by decide +kernel
theorem dL_act_105 : decode cL_act 105 = .ok (.iload 12, 2) := by decide +kernel
theorem dL_act_107 : decode cL_act 107 = .ok (.iconst 4, 1) := by decide +kernel
theorem dL_act_108 : decode cL_act 108 = .ok (.iadd, 1) := by decide +kernel
theorem dL_act_109 : decode cL_act 109 = .ok (.iconst 1, 1) := by decide +kernel
theorem dL_act_110 : decode cL_act 110 = .ok (.iload_n 3, 1) := by decide +kernel
theorem dL_act_111 : decode cL_act 111 = .ok (.bipush 6, 2) := by decide +kernel
theorem dL_act_113 : decode cL_act 113 = .ok (.ishr, 1) := by decide +kernel
theorem dL_act_114 : decode cL_act 114 = .ok (.iload_n 2, 1) := by decide +kernel
theorem dL_act_115 : decode cL_act 115 = .ok (.bipush 6, 2) := by decide +kernel
theorem dL_act_117 : decode cL_act 117 = .ok (.ishr, 1) := by decide +kernel
theorem dL_act_118 : decode cL_act 118 = .ok (.iconst 3, 1) := by decide +kernel
theorem dL_act_119 : decode cL_act 119 = .ok (.invokestatic 51, 3) := by decide +kernel
theorem dL_act_122 : decode cL_act 122 = .ok (.ifCond .ne 8, 3) := by decide +kernel
theorem dL_act_125 : decode cL_act 125 = .ok (.bipush 60, 2) := by decide +kernel
theorem dL_act_127 : decode cL_act 127 = .ok (.goto 5, 3) := by decide +kernel
theorem dL_act_130 : decode cL_act 130 = .ok (.bipush 20, 2) := by decide +kernel
theorem dL_act_132 : decode cL_act 132 = .ok (.invokestatic 51, 3) := by decide +kernel
theorem dL_act_135 : decode cL_act 135 = .ok (.iadd, 1) := by decide +kernel
theorem dL_act_136 : decode cL_act 136 = .ok (.iastore, 1) := by decide +kernel
theorem dL_act_137 : decode cL_act 137 = .ok (.aload 4, 2) := by decide +kernel
theorem dL_act_139 : decode cL_act 139 = .ok (.iload 12, 2) := by decide +kernel
theorem dL_act_141 : decode cL_act 141 = .ok (.iconst 5, 1) := by decide +kernel
theorem dL_act_142 : decode cL_act 142 = .ok (.iadd, 1) := by decide +kernel
theorem dL_act_143 : decode cL_act 143 = .ok (.iconst 0, 1) := by decide +kernel
theorem dL_act_144 : decode cL_act 144 = .ok (.iastore, 1) := by decide +kernel
theorem dL_act_145 : decode cL_act 145 = .ok (.aload 4, 2) := by decide +kernel
theorem dL_act_147 : decode cL_act 147 = .ok (.iload 12, 2) := by decide +kernel
theorem dL_act_149 : decode cL_act 149 = .ok (.bipush 6, 2) := by decide +kernel
theorem dL_act_151 : decode cL_act 151 = .ok (.iadd, 1) := by decide +kernel
theorem dL_act_152 : decode cL_act 152 = .ok (.iconst 0, 1) := by decide +kernel
theorem dL_act_153 : decode cL_act 153 = .ok (.iastore, 1) := by decide +kernel
theorem dL_act_154 : decode cL_act 154 = .ok (.aload 4, 2) := by decide +kernel
theorem dL_act_156 : decode cL_act 156 = .ok (.iload 12, 2) := by decide +kernel
theorem dL_act_158 : decode cL_act 158 = .ok (.bipush 7, 2) := by decide +kernel
theorem dL_act_160 : decode cL_act 160 = .ok (.iadd, 1) := by decide +kernel
theorem dL_act_161 : decode cL_act 161 = .ok (.aload 4, 2) := by decide +kernel
theorem dL_act_163 : decode cL_act 163 = .ok (.bipush 8, 2) := by decide +kernel
theorem dL_act_165 : decode cL_act 165 = .ok (.iload 11, 2) := by decide +kernel
theorem dL_act_167 : decode cL_act 167 = .ok (.imul, 1) := by decide +kernel
theorem dL_act_168 : decode cL_act 168 = .ok (.bipush 7, 2) := by decide +kernel
theorem dL_act_170 : decode cL_act 170 = .ok (.iadd, 1) := by decide +kernel
theorem dL_act_171 : decode cL_act 171 = .ok (.iaload, 1) := by decide +kernel
theorem dL_act_172 : decode cL_act 172 = .ok (.iconst 1, 1) := by decide +kernel
theorem dL_act_173 : decode cL_act 173 = .ok (.iadd, 1) := by decide +kernel
theorem dL_act_174 : decode cL_act 174 = .ok (.iastore, 1) := by decide +kernel
theorem dL_act_175 : decode cL_act 175 = .ok (.aload 7, 2) := by decide +kernel
theorem dL_act_177 : decode cL_act 177 = .ok (.iconst 0, 1) := by decide +kernel
theorem dL_act_178 : decode cL_act 178 = .ok (.dup2, 1) := by decide +kernel
theorem dL_act_179 : decode cL_act 179 = .ok (.iaload, 1) := by decide +kernel
theorem dL_act_180 : decode cL_act 180 = .ok (.iconst 1, 1) := by decide +kernel
theorem dL_act_181 : decode cL_act 181 = .ok (.iadd, 1) := by decide +kernel
theorem dL_act_182 : decode cL_act 182 = .ok (.iastore, 1) := by decide +kernel
theorem dL_act_183 : decode cL_act 183 = .ok (.aload 4, 2) := by decide +kernel
theorem dL_act_185 : decode cL_act 185 = .ok (.aload 5, 2) := by decide +kernel
theorem dL_act_187 : decode cL_act 187 = .ok (.aload 6, 2) := by decide +kernel
theorem dL_act_189 : decode cL_act 189 = .ok (.aload 7, 2) := by decide +kernel
theorem dL_act_191 : decode cL_act 191 = .ok (.aload 8, 2) := by decide +kernel
theorem dL_act_193 : decode cL_act 193 = .ok (.aload 9, 2) := by decide +kernel
theorem dL_act_195 : decode cL_act 195 = .ok (.aload 10, 2) := by decide +kernel
theorem dL_act_197 : decode cL_act 197 = .ok (.invokestatic 54, 3) := by decide +kernel
theorem dL_act_200 : decode cL_act 200 = .ok (.pop, 1) := by decide +kernel
theorem dL_act_201 : decode cL_act 201 = .ok (.aload_n 0, 1) := by decide +kernel
theorem dL_act_202 : decode cL_act 202 = .ok (.iload 11, 2) := by decide +kernel
theorem dL_act_204 : decode cL_act 204 = .ok (.aload 4, 2) := by decide +kernel
theorem dL_act_206 : decode cL_act 206 = .ok (.iload 12, 2) := by decide +kernel
theorem dL_act_208 : decode cL_act 208 = .ok (.iconst 3, 1) := by decide +kernel
theorem dL_act_209 : decode cL_act 209 = .ok (.iadd, 1) := by decide +kernel
theorem dL_act_210 : decode cL_act 210 = .ok (.iaload, 1) := by decide +kernel
theorem dL_act_211 : decode cL_act 211 = .ok (.aload 4, 2) := by decide +kernel
theorem dL_act_213 : decode cL_act 213 = .ok (.iload 12, 2) := by decide +kernel
theorem dL_act_215 : decode cL_act 215 = .ok (.iconst 4, 1) := by decide +kernel
theorem dL_act_216 : decode cL_act 216 = .ok (.iadd, 1) := by decide +kernel
theorem dL_act_217 : decode cL_act 217 = .ok (.iaload, 1) := by decide +kernel
theorem dL_act_218 : decode cL_act 218 = .ok (.aload 4, 2) := by decide +kernel
theorem dL_act_220 : decode cL_act 220 = .ok (.iload 12, 2) := by decide +kernel
theorem dL_act_222 : decode cL_act 222 = .ok (.iconst 1, 1) := by decide +kernel
theorem dL_act_223 : decode cL_act 223 = .ok (.iadd, 1) := by decide +kernel
theorem dL_act_224 : decode cL_act 224 = .ok (.iaload, 1) := by decide +kernel
theorem dL_act_225 : decode cL_act 225 = .ok (.iconst 1, 1) := by decide +kernel
theorem dL_act_226 : decode cL_act 226 = .ok (.if_icmp .ne 7, 3) := by decide +kernel
theorem dL_act_229 : decode cL_act 229 = .ok (.iconst 1, 1) := by decide +kernel
theorem dL_act_230 : decode cL_act 230 = .ok (.goto 4, 3) := by decide +kernel
theorem dL_act_233 : decode cL_act 233 = .ok (.iconst 0, 1) := by decide +kernel
theorem dL_act_234 : decode cL_act 234 = .ok (.invokevirtual 71, 3) := by decide +kernel
theorem dL_act_237 : decode cL_act 237 = .ok (.aload 7, 2) := by decide +kernel
theorem dL_act_239 : decode cL_act 239 = .ok (.iconst 0, 1) := by decide +kernel
theorem dL_act_240 : decode cL_act 240 = .ok (.iaload, 1) := by decide +kernel
theorem dL_act_241 : decode cL_act 241 = .ok (.iconst 1, 1) := by decide +kernel
theorem dL_act_242 : decode cL_act 242 = .ok (.isub, 1) := by decide +kernel
theorem dL_act_243 : decode cL_act 243 = .ok (.if_icmp .ne 7, 3) := by decide +kernel
theorem dL_act_246 : decode cL_act 246 = .ok (.iconst 1, 1) := by decide +kernel
theorem dL_act_247 : decode cL_act 247 = .ok (.goto 4, 3) := by decide +kernel
theorem dL_act_250 : decode cL_act 250 = .ok (.iconst 0, 1) := by decide +kernel
theorem dL_act_251 : decode cL_act 251 = .ok (.ireturn, 1) := by decide +kernel
theorem dL_act_252 : decode cL_act 252 = .ok (.iload_n 1, 1) := by decide +kernel
theorem dL_act_253 : decode cL_act 253 = .ok (.bipush 6, 2) := by decide +kernel
theorem dL_act_255 : decode cL_act 255 = .ok (.if_icmp .ge 128, 3) := by decide +kernel
theorem dL_act_258 : decode cL_act 258 = .ok (.aload 7, 2) := by decide +kernel
theorem dL_act_260 : decode cL_act 260 = .ok (.iconst 1, 1) := by decide +kernel
theorem dL_act_261 : decode cL_act 261 = .ok (.iaload, 1) := by decide +kernel
theorem dL_act_262 : decode cL_act 262 = .ok (.bipush 8, 2) := by decide +kernel
theorem dL_act_264 : decode cL_act 264 = .ok (.if_icmp .ne 5, 3) := by decide +kernel
theorem dL_act_267 : decode cL_act 267 = .ok (.iconst 1, 1) := by decide +kernel
theorem dL_act_268 : decode cL_act 268 = .ok (.ireturn, 1) := by decide +kernel
theorem dL_act_269 : decode cL_act 269 = .ok (.iconst 3, 1) := by decide +kernel
theorem dL_act_270 : decode cL_act 270 = .ok (.aload 7, 2) := by decide +kernel
theorem dL_act_272 : decode cL_act 272 = .ok (.iconst 1, 1) := by decide +kernel
theorem dL_act_273 : decode cL_act 273 = .ok (.iaload, 1) := by decide +kernel
theorem dL_act_274 : decode cL_act 274 = .ok (.imul, 1) := by decide +kernel
theorem dL_act_275 : decode cL_act 275 = .ok (.istore 12, 2) := by decide +kernel
theorem dL_act_277 : decode cL_act 277 = .ok (.aload 5, 2) := by decide +kernel
theorem dL_act_279 : decode cL_act 279 = .ok (.iload 12, 2) := by decide +kernel
theorem dL_act_281 : decode cL_act 281 = .ok (.iload 11, 2) := by decide +kernel
theorem dL_act_283 : decode cL_act 283 = .ok (.iastore, 1) := by decide +kernel
theorem dL_act_284 : decode cL_act 284 = .ok (.aload 5, 2) := by decide +kernel
theorem dL_act_286 : decode cL_act 286 = .ok (.iload 12, 2) := by decide +kernel
theorem dL_act_288 : decode cL_act 288 = .ok (.iconst 1, 1) := by decide +kernel
theorem dL_act_289 : decode cL_act 289 = .ok (.iadd, 1) := by decide +kernel
theorem dL_act_290 : decode cL_act 290 = .ok (.iconst 1, 1) := by decide +kernel
theorem dL_act_291 : decode cL_act 291 = .ok (.iload_n 3, 1) := by decide +kernel
theorem dL_act_292 : decode cL_act 292 = .ok (.bipush 9, 2) := by decide +kernel
theorem dL_act_294 : decode cL_act 294 = .ok (.invokestatic 51, 3) := by decide +kernel
theorem dL_act_297 : decode cL_act 297 = .ok (.iadd, 1) := by decide +kernel
theorem dL_act_298 : decode cL_act 298 = .ok (.iastore, 1) := by decide +kernel
theorem dL_act_299 : decode cL_act 299 = .ok (.aload 5, 2) := by decide +kernel
theorem dL_act_301 : decode cL_act 301 = .ok (.iload 12, 2) := by decide +kernel
theorem dL_act_303 : decode cL_act 303 = .ok (.iconst 2, 1) := by decide +kernel
theorem dL_act_304 : decode cL_act 304 = .ok (.iadd, 1) := by decide +kernel
theorem dL_act_305 : decode cL_act 305 = .ok (.iload_n 3, 1) := by decide +kernel
theorem dL_act_306 : decode cL_act 306 = .ok (.iconst 4, 1) := by decide +kernel
theorem dL_act_307 : decode cL_act 307 = .ok (.ishr, 1) := by decide +kernel
theorem dL_act_308 : decode cL_act 308 = .ok (.iconst 2, 1) := by decide +kernel
theorem dL_act_309 : decode cL_act 309 = .ok (.invokestatic 51, 3) := by decide +kernel
theorem dL_act_312 : decode cL_act 312 = .ok (.iastore, 1) := by decide +kernel
theorem dL_act_313 : decode cL_act 313 = .ok (.aload 7, 2) := by decide +kernel
theorem dL_act_315 : decode cL_act 315 = .ok (.iconst 1, 1) := by decide +kernel
theorem dL_act_316 : decode cL_act 316 = .ok (.dup2, 1) := by decide +kernel
theorem dL_act_317 : decode cL_act 317 = .ok (.iaload, 1) := by decide +kernel
theorem dL_act_318 : decode cL_act 318 = .ok (.iconst 1, 1) := by decide +kernel
theorem dL_act_319 : decode cL_act 319 = .ok (.iadd, 1) := by decide +kernel
theorem dL_act_320 : decode cL_act 320 = .ok (.iastore, 1) := by decide +kernel
theorem dL_act_321 : decode cL_act 321 = .ok (.aload 4, 2) := by decide +kernel
theorem dL_act_323 : decode cL_act 323 = .ok (.aload 5, 2) := by decide +kernel
theorem dL_act_325 : decode cL_act 325 = .ok (.aload 6, 2) := by decide +kernel
theorem dL_act_327 : decode cL_act 327 = .ok (.aload 7, 2) := by decide +kernel
theorem dL_act_329 : decode cL_act 329 = .ok (.aload 8, 2) := by decide +kernel
theorem dL_act_331 : decode cL_act 331 = .ok (.aload 9, 2) := by decide +kernel
theorem dL_act_333 : decode cL_act 333 = .ok (.aload 10, 2) := by decide +kernel
theorem dL_act_335 : decode cL_act 335 = .ok (.invokestatic 54, 3) := by decide +kernel
theorem dL_act_338 : decode cL_act 338 = .ok (.pop, 1) := by decide +kernel
theorem dL_act_339 : decode cL_act 339 = .ok (.aload_n 0, 1) := by decide +kernel
theorem dL_act_340 : decode cL_act 340 = .ok (.iload 11, 2) := by decide +kernel
theorem dL_act_342 : decode cL_act 342 = .ok (.aload 5, 2) := by decide +kernel
theorem dL_act_344 : decode cL_act 344 = .ok (.iload 12, 2) := by decide +kernel
theorem dL_act_346 : decode cL_act 346 = .ok (.iconst 1, 1) := by decide +kernel
theorem dL_act_347 : decode cL_act 347 = .ok (.iadd, 1) := by decide +kernel
theorem dL_act_348 : decode cL_act 348 = .ok (.iaload, 1) := by decide +kernel
theorem dL_act_349 : decode cL_act 349 = .ok (.aload 5, 2) := by decide +kernel
theorem dL_act_351 : decode cL_act 351 = .ok (.iload 12, 2) := by decide +kernel
theorem dL_act_353 : decode cL_act 353 = .ok (.iconst 2, 1) := by decide +kernel
theorem dL_act_354 : decode cL_act 354 = .ok (.iadd, 1) := by decide +kernel
theorem dL_act_355 : decode cL_act 355 = .ok (.iaload, 1) := by decide +kernel
theorem dL_act_356 : decode cL_act 356 = .ok (.iconst 1, 1) := by decide +kernel
theorem dL_act_357 : decode cL_act 357 = .ok (.if_icmp .ne 7, 3) := by decide +kernel
theorem dL_act_360 : decode cL_act 360 = .ok (.iconst 1, 1) := by decide +kernel
theorem dL_act_361 : decode cL_act 361 = .ok (.goto 4, 3) := by decide +kernel
theorem dL_act_364 : decode cL_act 364 = .ok (.iconst 0, 1) := by decide +kernel
theorem dL_act_365 : decode cL_act 365 = .ok (.invokevirtual 75, 3) := by decide +kernel
theorem dL_act_368 : decode cL_act 368 = .ok (.aload 7, 2) := by decide +kernel
theorem dL_act_370 : decode cL_act 370 = .ok (.iconst 1, 1) := by decide +kernel
theorem dL_act_371 : decode cL_act 371 = .ok (.iaload, 1) := by decide +kernel
theorem dL_act_372 : decode cL_act 372 = .ok (.iconst 1, 1) := by decide +kernel
theorem dL_act_373 : decode cL_act 373 = .ok (.isub, 1) := by decide +kernel
theorem dL_act_374 : decode cL_act 374 = .ok (.if_icmp .ne 7, 3) := by decide +kernel
theorem dL_act_377 : decode cL_act 377 = .ok (.iconst 1, 1) := by decide +kernel
theorem dL_act_378 : decode cL_act 378 = .ok (.goto 4, 3) := by decide +kernel
theorem dL_act_381 : decode cL_act 381 = .ok (.iconst 0, 1) := by decide +kernel
theorem dL_act_382 : decode cL_act 382 = .ok (.ireturn, 1) := by decide +kernel
theorem dL_act_383 : decode cL_act 383 = .ok (.iload_n 1, 1) := by decide +kernel
theorem dL_act_384 : decode cL_act 384 = .ok (.bipush 9, 2) := by decide +kernel
theorem dL_act_386 : decode cL_act 386 = .ok (.if_icmp .ge 115, 3) := by decide +kernel
theorem dL_act_389 : decode cL_act 389 = .ok (.aload 7, 2) := by decide +kernel
theorem dL_act_391 : decode cL_act 391 = .ok (.iconst 2, 1) := by decide +kernel
theorem dL_act_392 : decode cL_act 392 = .ok (.iaload, 1) := by decide +kernel
theorem dL_act_393 : decode cL_act 393 = .ok (.iconst 5, 1) := by decide +kernel
theorem dL_act_394 : decode cL_act 394 = .ok (.if_icmp .ne 5, 3) := by decide +kernel
theorem dL_act_397 : decode cL_act 397 = .ok (.iconst 1, 1) := by decide +kernel
theorem dL_act_398 : decode cL_act 398 = .ok (.ireturn, 1) := by decide +kernel
theorem dL_act_399 : decode cL_act 399 = .ok (.iconst 3, 1) := by decide +kernel
theorem dL_act_400 : decode cL_act 400 = .ok (.aload 7, 2) := by decide +kernel
theorem dL_act_402 : decode cL_act 402 = .ok (.iconst 2, 1) := by decide +kernel
theorem dL_act_403 : decode cL_act 403 = .ok (.iaload, 1) := by decide +kernel
theorem dL_act_404 : decode cL_act 404 = .ok (.imul, 1) := by decide +kernel
theorem dL_act_405 : decode cL_act 405 = .ok (.istore 12, 2) := by decide +kernel
theorem dL_act_407 : decode cL_act 407 = .ok (.aload 6, 2) := by decide +kernel
theorem dL_act_409 : decode cL_act 409 = .ok (.iload 12, 2) := by decide +kernel
theorem dL_act_411 : decode cL_act 411 = .ok (.iload 11, 2) := by decide +kernel
theorem dL_act_413 : decode cL_act 413 = .ok (.iastore, 1) := by decide +kernel
theorem dL_act_414 : decode cL_act 414 = .ok (.aload 6, 2) := by decide +kernel
theorem dL_act_416 : decode cL_act 416 = .ok (.iload 12, 2) := by decide +kernel
theorem dL_act_418 : decode cL_act 418 = .ok (.iconst 1, 1) := by decide +kernel
theorem dL_act_419 : decode cL_act 419 = .ok (.iadd, 1) := by decide +kernel
theorem dL_act_420 : decode cL_act 420 = .ok (.iload_n 3, 1) := by decide +kernel
theorem dL_act_421 : decode cL_act 421 = .ok (.iconst 2, 1) := by decide +kernel
theorem dL_act_422 : decode cL_act 422 = .ok (.invokestatic 51, 3) := by decide +kernel
theorem dL_act_425 : decode cL_act 425 = .ok (.iastore, 1) := by decide +kernel
theorem dL_act_426 : decode cL_act 426 = .ok (.aload 6, 2) := by decide +kernel
theorem dL_act_428 : decode cL_act 428 = .ok (.iload 12, 2) := by decide +kernel
theorem dL_act_430 : decode cL_act 430 = .ok (.iconst 2, 1) := by decide +kernel
theorem dL_act_431 : decode cL_act 431 = .ok (.iadd, 1) := by decide +kernel
theorem dL_act_432 : decode cL_act 432 = .ok (.iconst 1, 1) := by decide +kernel
theorem dL_act_433 : decode cL_act 433 = .ok (.iload_n 3, 1) := by decide +kernel
theorem dL_act_434 : decode cL_act 434 = .ok (.iconst 2, 1) := by decide +kernel
theorem dL_act_435 : decode cL_act 435 = .ok (.ishr, 1) := by decide +kernel
theorem dL_act_436 : decode cL_act 436 = .ok (.bipush 30, 2) := by decide +kernel
theorem dL_act_438 : decode cL_act 438 = .ok (.invokestatic 51, 3) := by decide +kernel
theorem dL_act_441 : decode cL_act 441 = .ok (.iadd, 1) := by decide +kernel
theorem dL_act_442 : decode cL_act 442 = .ok (.iastore, 1) := by decide +kernel
theorem dL_act_443 : decode cL_act 443 = .ok (.aload 7, 2) := by decide +kernel
theorem dL_act_445 : decode cL_act 445 = .ok (.iconst 2, 1) := by decide +kernel
theorem dL_act_446 : decode cL_act 446 = .ok (.dup2, 1) := by decide +kernel
theorem dL_act_447 : decode cL_act 447 = .ok (.iaload, 1) := by decide +kernel
theorem dL_act_448 : decode cL_act 448 = .ok (.iconst 1, 1) := by decide +kernel
theorem dL_act_449 : decode cL_act 449 = .ok (.iadd, 1) := by decide +kernel
theorem dL_act_450 : decode cL_act 450 = .ok (.iastore, 1) := by decide +kernel
theorem dL_act_451 : decode cL_act 451 = .ok (.aload 4, 2) := by decide +kernel
theorem dL_act_453 : decode cL_act 453 = .ok (.aload 5, 2) := by decide +kernel
theorem dL_act_455 : decode cL_act 455 = .ok (.aload 6, 2) := by decide +kernel
theorem dL_act_457 : decode cL_act 457 = .ok (.aload 7, 2) := by decide +kernel
theorem dL_act_459 : decode cL_act 459 = .ok (.aload 8, 2) := by decide +kernel
theorem dL_act_461 : decode cL_act 461 = .ok (.aload 9, 2) := by decide +kernel
theorem dL_act_463 : decode cL_act 463 = .ok (.aload 10, 2) := by decide +kernel
theorem dL_act_465 : decode cL_act 465 = .ok (.invokestatic 54, 3) := by decide +kernel
theorem dL_act_468 : decode cL_act 468 = .ok (.istore 13, 2) := by decide +kernel
theorem dL_act_470 : decode cL_act 470 = .ok (.aload_n 0, 1) := by decide +kernel
theorem dL_act_471 : decode cL_act 471 = .ok (.iload 11, 2) := by decide +kernel
theorem dL_act_473 : decode cL_act 473 = .ok (.aload 6, 2) := by decide +kernel
theorem dL_act_475 : decode cL_act 475 = .ok (.iload 12, 2) := by decide +kernel
theorem dL_act_477 : decode cL_act 477 = .ok (.iconst 1, 1) := by decide +kernel
theorem dL_act_478 : decode cL_act 478 = .ok (.iadd, 1) := by decide +kernel
theorem dL_act_479 : decode cL_act 479 = .ok (.iaload, 1) := by decide +kernel
theorem dL_act_480 : decode cL_act 480 = .ok (.aload 6, 2) := by decide +kernel
theorem dL_act_482 : decode cL_act 482 = .ok (.iload 12, 2) := by decide +kernel
theorem dL_act_484 : decode cL_act 484 = .ok (.iconst 2, 1) := by decide +kernel
theorem dL_act_485 : decode cL_act 485 = .ok (.iadd, 1) := by decide +kernel
theorem dL_act_486 : decode cL_act 486 = .ok (.iaload, 1) := by decide +kernel
theorem dL_act_487 : decode cL_act 487 = .ok (.invokevirtual 79, 3) := by decide +kernel
theorem dL_act_490 : decode cL_act 490 = .ok (.iload 13, 2) := by decide +kernel
theorem dL_act_492 : decode cL_act 492 = .ok (.if_icmp .ne 7, 3) := by decide +kernel
theorem dL_act_495 : decode cL_act 495 = .ok (.iconst 1, 1) := by decide +kernel
theorem dL_act_496 : decode cL_act 496 = .ok (.goto 4, 3) := by decide +kernel
theorem dL_act_499 : decode cL_act 499 = .ok (.iconst 0, 1) := by decide +kernel
theorem dL_act_500 : decode cL_act 500 = .ok (.ireturn, 1) := by decide +kernel
theorem dL_act_501 : decode cL_act 501 = .ok (.iload_n 1, 1) := by decide +kernel
theorem dL_act_502 : decode cL_act 502 = .ok (.bipush 9, 2) := by decide +kernel
theorem dL_act_504 : decode cL_act 504 = .ok (.if_icmp .ne 111, 3) := by decide +kernel
theorem dL_act_507 : decode cL_act 507 = .ok (.aload 7, 2) := by decide +kernel
theorem dL_act_509 : decode cL_act 509 = .ok (.iconst 2, 1) := by decide +kernel
theorem dL_act_510 : decode cL_act 510 = .ok (.iaload, 1) := by decide +kernel
theorem dL_act_511 : decode cL_act 511 = .ok (.ifCond .ne 5, 3) := by decide +kernel
theorem dL_act_514 : decode cL_act 514 = .ok (.iconst 1, 1) := by decide +kernel
theorem dL_act_515 : decode cL_act 515 = .ok (.ireturn, 1) := by decide +kernel
theorem dL_act_516 : decode cL_act 516 = .ok (.iload_n 2, 1) := by decide +kernel
theorem dL_act_517 : decode cL_act 517 = .ok (.aload 7, 2) := by decide +kernel
theorem dL_act_519 : decode cL_act 519 = .ok (.iconst 2, 1) := by decide +kernel
theorem dL_act_520 : decode cL_act 520 = .ok (.iaload, 1) := by decide +kernel
theorem dL_act_521 : decode cL_act 521 = .ok (.invokestatic 51, 3) := by decide +kernel
theorem dL_act_524 : decode cL_act 524 = .ok (.istore 12, 2) := by decide +kernel
theorem dL_act_526 : decode cL_act 526 = .ok (.aload 6, 2) := by decide +kernel
theorem dL_act_528 : decode cL_act 528 = .ok (.iconst 3, 1) := by decide +kernel
theorem dL_act_529 : decode cL_act 529 = .ok (.iload 12, 2) := by decide +kernel
theorem dL_act_531 : decode cL_act 531 = .ok (.imul, 1) := by decide +kernel
theorem dL_act_532 : decode cL_act 532 = .ok (.iconst 2, 1) := by decide +kernel
theorem dL_act_533 : decode cL_act 533 = .ok (.iadd, 1) := by decide +kernel
theorem dL_act_534 : decode cL_act 534 = .ok (.iaload, 1) := by decide +kernel
theorem dL_act_535 : decode cL_act 535 = .ok (.istore 13, 2) := by decide +kernel
theorem dL_act_537 : decode cL_act 537 = .ok (.aload 7, 2) := by decide +kernel
theorem dL_act_539 : decode cL_act 539 = .ok (.iconst 2, 1) := by decide +kernel
theorem dL_act_540 : decode cL_act 540 = .ok (.dup2, 1) := by decide +kernel
theorem dL_act_541 : decode cL_act 541 = .ok (.iaload, 1) := by decide +kernel
theorem dL_act_542 : decode cL_act 542 = .ok (.iconst 1, 1) := by decide +kernel
theorem dL_act_543 : decode cL_act 543 = .ok (.isub, 1) := by decide +kernel
theorem dL_act_544 : decode cL_act 544 = .ok (.iastore, 1) := by decide +kernel
theorem dL_act_545 : decode cL_act 545 = .ok (.iconst 3, 1) := by decide +kernel
theorem dL_act_546 : decode cL_act 546 = .ok (.iload 12, 2) := by decide +kernel
theorem dL_act_548 : decode cL_act 548 = .ok (.imul, 1) := by decide +kernel
theorem dL_act_549 : decode cL_act 549 = .ok (.istore 14, 2) := by decide +kernel
theorem dL_act_551 : decode cL_act 551 = .ok (.iload 14, 2) := by decide +kernel
theorem dL_act_553 : decode cL_act 553 = .ok (.iconst 3, 1) := by decide +kernel
theorem dL_act_554 : decode cL_act 554 = .ok (.aload 7, 2) := by decide +kernel
theorem dL_act_556 : decode cL_act 556 = .ok (.iconst 2, 1) := by decide +kernel
theorem dL_act_557 : decode cL_act 557 = .ok (.iaload, 1) := by decide +kernel
theorem dL_act_558 : decode cL_act 558 = .ok (.imul, 1) := by decide +kernel
theorem dL_act_559 : decode cL_act 559 = .ok (.if_icmp .ge 21, 3) := by decide +kernel
theorem dL_act_562 : decode cL_act 562 = .ok (.aload 6, 2) := by decide +kernel
theorem dL_act_564 : decode cL_act 564 = .ok (.iload 14, 2) := by decide +kernel
theorem dL_act_566 : decode cL_act 566 = .ok (.aload 6, 2) := by decide +kernel
theorem dL_act_568 : decode cL_act 568 = .ok (.iload 14, 2) := by decide +kernel
theorem dL_act_570 : decode cL_act 570 = .ok (.iconst 3, 1) := by decide +kernel
theorem dL_act_571 : decode cL_act 571 = .ok (.iadd, 1) := by decide +kernel
theorem dL_act_572 : decode cL_act 572 = .ok (.iaload, 1) := by decide +kernel
theorem dL_act_573 : decode cL_act 573 = .ok (.iastore, 1) := by decide +kernel
theorem dL_act_574 : decode cL_act 574 = .ok (.iinc 14 1, 3) := by decide +kernel
theorem dL_act_577 : decode cL_act 577 = .ok (.goto (-26), 3) := by decide +kernel
theorem dL_act_580 : decode cL_act 580 = .ok (.aload 4, 2) := by decide +kernel
theorem dL_act_582 : decode cL_act 582 = .ok (.aload 5, 2) := by decide +kernel
theorem dL_act_584 : decode cL_act 584 = .ok (.aload 6, 2) := by decide +kernel
theorem dL_act_586 : decode cL_act 586 = .ok (.aload 7, 2) := by decide +kernel
theorem dL_act_588 : decode cL_act 588 = .ok (.aload 8, 2) := by decide +kernel
theorem dL_act_590 : decode cL_act 590 = .ok (.aload 9, 2) := by decide +kernel
theorem dL_act_592 : decode cL_act 592 = .ok (.aload 10, 2) := by decide +kernel
theorem dL_act_594 : decode cL_act 594 = .ok (.invokestatic 54, 3) := by decide +kernel
theorem dL_act_597 : decode cL_act 597 = .ok (.pop, 1) := by decide +kernel
theorem dL_act_598 : decode cL_act 598 = .ok (.aload_n 0, 1) := by decide +kernel
theorem dL_act_599 : decode cL_act 599 = .ok (.iload 12, 2) := by decide +kernel
theorem dL_act_601 : decode cL_act 601 = .ok (.invokevirtual 82, 3) := by decide +kernel
theorem dL_act_604 : decode cL_act 604 = .ok (.iload 13, 2) := by decide +kernel
theorem dL_act_606 : decode cL_act 606 = .ok (.if_icmp .ne 7, 3) := by decide +kernel
theorem dL_act_609 : decode cL_act 609 = .ok (.iconst 1, 1) := by decide +kernel
theorem dL_act_610 : decode cL_act 610 = .ok (.goto 4, 3) := by decide +kernel
theorem dL_act_613 : decode cL_act 613 = .ok (.iconst 0, 1) := by decide +kernel
theorem dL_act_614 : decode cL_act 614 = .ok (.ireturn, 1) := by decide +kernel
theorem dL_act_615 : decode cL_act 615 = .ok (.iload_n 1, 1) := by decide +kernel
theorem dL_act_616 : decode cL_act 616 = .ok (.bipush 10, 2) := by decide +kernel
theorem dL_act_618 : decode cL_act 618 = .ok (.if_icmp .ne 138, 3) := by decide +kernel
theorem dL_act_621 : decode cL_act 621 = .ok (.aload 7, 2) := by decide +kernel
theorem dL_act_623 : decode cL_act 623 = .ok (.iconst 1, 1) := by decide +kernel
theorem dL_act_624 : decode cL_act 624 = .ok (.iaload, 1) := by decide +kernel
theorem dL_act_625 : decode cL_act 625 = .ok (.ifCond .ne 5, 3) := by decide +kernel
theorem dL_act_628 : decode cL_act 628 = .ok (.iconst 1, 1) := by decide +kernel
theorem dL_act_629 : decode cL_act 629 = .ok (.ireturn, 1) := by decide +kernel
theorem dL_act_630 : decode cL_act 630 = .ok (.iload_n 2, 1) := by decide +kernel
theorem dL_act_631 : decode cL_act 631 = .ok (.aload 7, 2) := by decide +kernel
theorem dL_act_633 : decode cL_act 633 = .ok (.iconst 1, 1) := by decide +kernel
theorem dL_act_634 : decode cL_act 634 = .ok (.iaload, 1) := by decide +kernel
theorem dL_act_635 : decode cL_act 635 = .ok (.invokestatic 51, 3) := by decide +kernel
theorem dL_act_638 : decode cL_act 638 = .ok (.istore 12, 2) := by decide +kernel
theorem dL_act_640 : decode cL_act 640 = .ok (.aload 4, 2) := by decide +kernel
theorem dL_act_642 : decode cL_act 642 = .ok (.aload 5, 2) := by decide +kernel
theorem dL_act_644 : decode cL_act 644 = .ok (.aload 6, 2) := by decide +kernel
theorem dL_act_646 : decode cL_act 646 = .ok (.aload 7, 2) := by decide +kernel
theorem dL_act_648 : decode cL_act 648 = .ok (.aload 8, 2) := by decide +kernel
theorem dL_act_650 : decode cL_act 650 = .ok (.aload 9, 2) := by decide +kernel
theorem dL_act_652 : decode cL_act 652 = .ok (.aload 10, 2) := by decide +kernel
theorem dL_act_654 : decode cL_act 654 = .ok (.invokestatic 17, 3) := by decide +kernel
theorem dL_act_657 : decode cL_act 657 = .ok (.iload 12, 2) := by decide +kernel
theorem dL_act_659 : decode cL_act 659 = .ok (.aload 4, 2) := by decide +kernel
theorem dL_act_661 : decode cL_act 661 = .ok (.aload 5, 2) := by decide +kernel
theorem dL_act_663 : decode cL_act 663 = .ok (.aload 8, 2) := by decide +kernel
theorem dL_act_665 : decode cL_act 665 = .ok (.invokestatic 8, 3) := by decide +kernel
theorem dL_act_668 : decode cL_act 668 = .ok (.ifCond .ne 7, 3) := by decide +kernel
theorem dL_act_671 : decode cL_act 671 = .ok (.iconst 1, 1) := by decide +kernel
theorem dL_act_672 : decode cL_act 672 = .ok (.goto 4, 3) := by decide +kernel
theorem dL_act_675 : decode cL_act 675 = .ok (.iconst 0, 1) := by decide +kernel
theorem dL_act_676 : decode cL_act 676 = .ok (.istore 13, 2) := by decide +kernel
theorem dL_act_678 : decode cL_act 678 = .ok (.aload 7, 2) := by decide +kernel
theorem dL_act_680 : decode cL_act 680 = .ok (.iconst 1, 1) := by decide +kernel
theorem dL_act_681 : decode cL_act 681 = .ok (.dup2, 1) := by decide +kernel
theorem dL_act_682 : decode cL_act 682 = .ok (.iaload, 1) := by decide +kernel
theorem dL_act_683 : decode cL_act 683 = .ok (.iconst 1, 1) := by decide +kernel
theorem dL_act_684 : decode cL_act 684 = .ok (.isub, 1) := by decide +kernel
theorem dL_act_685 : decode cL_act 685 = .ok (.iastore, 1) := by decide +kernel
theorem dL_act_686 : decode cL_act 686 = .ok (.iconst 3, 1) := by decide +kernel
theorem dL_act_687 : decode cL_act 687 = .ok (.iload 12, 2) := by decide +kernel
theorem dL_act_689 : decode cL_act 689 = .ok (.imul, 1) := by decide +kernel
theorem dL_act_690 : decode cL_act 690 = .ok (.istore 14, 2) := by decide +kernel
theorem dL_act_692 : decode cL_act 692 = .ok (.iload 14, 2) := by decide +kernel
theorem dL_act_694 : decode cL_act 694 = .ok (.iconst 3, 1) := by decide +kernel
theorem dL_act_695 : decode cL_act 695 = .ok (.aload 7, 2) := by decide +kernel
theorem dL_act_697 : decode cL_act 697 = .ok (.iconst 1, 1) := by decide +kernel
theorem dL_act_698 : decode cL_act 698 = .ok (.iaload, 1) := by decide +kernel
theorem dL_act_699 : decode cL_act 699 = .ok (.imul, 1) := by decide +kernel
theorem dL_act_700 : decode cL_act 700 = .ok (.if_icmp .ge 21, 3) := by decide +kernel
theorem dL_act_703 : decode cL_act 703 = .ok (.aload 5, 2) := by decide +kernel
theorem dL_act_705 : decode cL_act 705 = .ok (.iload 14, 2) := by decide +kernel
theorem dL_act_707 : decode cL_act 707 = .ok (.aload 5, 2) := by decide +kernel
theorem dL_act_709 : decode cL_act 709 = .ok (.iload 14, 2) := by decide +kernel
theorem dL_act_711 : decode cL_act 711 = .ok (.iconst 3, 1) := by decide +kernel
theorem dL_act_712 : decode cL_act 712 = .ok (.iadd, 1) := by decide +kernel
theorem dL_act_713 : decode cL_act 713 = .ok (.iaload, 1) := by decide +kernel
theorem dL_act_714 : decode cL_act 714 = .ok (.iastore, 1) := by decide +kernel
theorem dL_act_715 : decode cL_act 715 = .ok (.iinc 14 1, 3) := by decide +kernel
theorem dL_act_718 : decode cL_act 718 = .ok (.goto (-26), 3) := by decide +kernel
theorem dL_act_721 : decode cL_act 721 = .ok (.aload 4, 2) := by decide +kernel
theorem dL_act_723 : decode cL_act 723 = .ok (.aload 5, 2) := by decide +kernel
theorem dL_act_725 : decode cL_act 725 = .ok (.aload 6, 2) := by decide +kernel
theorem dL_act_727 : decode cL_act 727 = .ok (.aload 7, 2) := by decide +kernel
theorem dL_act_729 : decode cL_act 729 = .ok (.aload 8, 2) := by decide +kernel
theorem dL_act_731 : decode cL_act 731 = .ok (.aload 9, 2) := by decide +kernel
theorem dL_act_733 : decode cL_act 733 = .ok (.aload 10, 2) := by decide +kernel
theorem dL_act_735 : decode cL_act 735 = .ok (.invokestatic 54, 3) := by decide +kernel
theorem dL_act_738 : decode cL_act 738 = .ok (.pop, 1) := by decide +kernel
theorem dL_act_739 : decode cL_act 739 = .ok (.aload_n 0, 1) := by decide +kernel
theorem dL_act_740 : decode cL_act 740 = .ok (.iload 12, 2) := by decide +kernel
theorem dL_act_742 : decode cL_act 742 = .ok (.invokevirtual 85, 3) := by decide +kernel
theorem dL_act_745 : decode cL_act 745 = .ok (.iload 13, 2) := by decide +kernel
theorem dL_act_747 : decode cL_act 747 = .ok (.if_icmp .ne 7, 3) := by decide +kernel
theorem dL_act_750 : decode cL_act 750 = .ok (.iconst 1, 1) := by decide +kernel
theorem dL_act_751 : decode cL_act 751 = .ok (.goto 4, 3) := by decide +kernel
theorem dL_act_754 : decode cL_act 754 = .ok (.iconst 0, 1) := by decide +kernel
theorem dL_act_755 : decode cL_act 755 = .ok (.ireturn, 1) := by decide +kernel
theorem dL_act_756 : decode cL_act 756 = .ok (.iload_n 1, 1) := by decide +kernel
theorem dL_act_757 : decode cL_act 757 = .ok (.bipush 11, 2) := by decide +kernel
theorem dL_act_759 : decode cL_act 759 = .ok (.if_icmp .ne 133, 3) := by decide +kernel
theorem dL_act_762 : decode cL_act 762 = .ok (.aload 4, 2) := by decide +kernel
theorem dL_act_764 : decode cL_act 764 = .ok (.aload 5, 2) := by decide +kernel
theorem dL_act_766 : decode cL_act 766 = .ok (.aload 6, 2) := by decide +kernel
theorem dL_act_768 : decode cL_act 768 = .ok (.aload 7, 2) := by decide +kernel
theorem dL_act_770 : decode cL_act 770 = .ok (.aload 8, 2) := by decide +kernel
theorem dL_act_772 : decode cL_act 772 = .ok (.aload 9, 2) := by decide +kernel
theorem dL_act_774 : decode cL_act 774 = .ok (.aload 10, 2) := by decide +kernel
theorem dL_act_776 : decode cL_act 776 = .ok (.invokestatic 17, 3) := by decide +kernel
theorem dL_act_779 : decode cL_act 779 = .ok (.iconst 1, 1) := by decide +kernel
theorem dL_act_780 : decode cL_act 780 = .ok (.iload_n 3, 1) := by decide +kernel
theorem dL_act_781 : decode cL_act 781 = .ok (.sipush 1000, 3) := by decide +kernel
theorem dL_act_784 : decode cL_act 784 = .ok (.invokestatic 51, 3) := by decide +kernel
theorem dL_act_787 : decode cL_act 787 = .ok (.iadd, 1) := by decide +kernel
theorem dL_act_788 : decode cL_act 788 = .ok (.istore 12, 2) := by decide +kernel
theorem dL_act_790 : decode cL_act 790 = .ok (.iload 12, 2) := by decide +kernel
theorem dL_act_792 : decode cL_act 792 = .ok (.aload 4, 2) := by decide +kernel
theorem dL_act_794 : decode cL_act 794 = .ok (.aload 5, 2) := by decide +kernel
theorem dL_act_796 : decode cL_act 796 = .ok (.aload 7, 2) := by decide +kernel
theorem dL_act_798 : decode cL_act 798 = .ok (.aload 8, 2) := by decide +kernel
theorem dL_act_800 : decode cL_act 800 = .ok (.iconst 1, 1) := by decide +kernel
theorem dL_act_801 : decode cL_act 801 = .ok (.invokestatic 47, 3) := by decide +kernel
theorem dL_act_804 : decode cL_act 804 = .ok (.imul, 1) := by decide +kernel
theorem dL_act_805 : decode cL_act 805 = .ok (.istore 13, 2) := by decide +kernel
theorem dL_act_807 : decode cL_act 807 = .ok (.iconst 0, 1) := by decide +kernel
theorem dL_act_808 : decode cL_act 808 = .ok (.aload 6, 2) := by decide +kernel
theorem dL_act_810 : decode cL_act 810 = .ok (.aload 7, 2) := by decide +kernel
theorem dL_act_812 : decode cL_act 812 = .ok (.aload 8, 2) := by decide +kernel
theorem dL_act_814 : decode cL_act 814 = .ok (.invokestatic 14, 3) := by decide +kernel
theorem dL_act_817 : decode cL_act 817 = .ok (.istore 14, 2) := by decide +kernel
theorem dL_act_819 : decode cL_act 819 = .ok (.iconst 1, 1) := by decide +kernel
theorem dL_act_820 : decode cL_act 820 = .ok (.aload 6, 2) := by decide +kernel
theorem dL_act_822 : decode cL_act 822 = .ok (.aload 7, 2) := by decide +kernel
theorem dL_act_824 : decode cL_act 824 = .ok (.aload 8, 2) := by decide +kernel
theorem dL_act_826 : decode cL_act 826 = .ok (.invokestatic 14, 3) := by decide +kernel
theorem dL_act_829 : decode cL_act 829 = .ok (.istore 15, 2) := by decide +kernel
theorem dL_act_831 : decode cL_act 831 = .ok (.aload 7, 2) := by decide +kernel
theorem dL_act_833 : decode cL_act 833 = .ok (.iconst 5, 1) := by decide +kernel
theorem dL_act_834 : decode cL_act 834 = .ok (.dup2, 1) := by decide +kernel
theorem dL_act_835 : decode cL_act 835 = .ok (.iaload, 1) := by decide +kernel
theorem dL_act_836 : decode cL_act 836 = .ok (.iload 12, 2) := by decide +kernel
theorem dL_act_838 : decode cL_act 838 = .ok (.iadd, 1) := by decide +kernel
theorem dL_act_839 : decode cL_act 839 = .ok (.iastore, 1) := by decide +kernel
theorem dL_act_840 : decode cL_act 840 = .ok (.aload 7, 2) := by decide +kernel
theorem dL_act_842 : decode cL_act 842 = .ok (.bipush 6, 2) := by decide +kernel
theorem dL_act_844 : decode cL_act 844 = .ok (.dup2, 1) := by decide +kernel
theorem dL_act_845 : decode cL_act 845 = .ok (.iaload, 1) := by decide +kernel
theorem dL_act_846 : decode cL_act 846 = .ok (.iload 13, 2) := by decide +kernel
theorem dL_act_848 : decode cL_act 848 = .ok (.iadd, 1) := by decide +kernel
theorem dL_act_849 : decode cL_act 849 = .ok (.iastore, 1) := by decide +kernel
theorem dL_act_850 : decode cL_act 850 = .ok (.aload 7, 2) := by decide +kernel
theorem dL_act_852 : decode cL_act 852 = .ok (.bipush 7, 2) := by decide +kernel
theorem dL_act_854 : decode cL_act 854 = .ok (.dup2, 1) := by decide +kernel
theorem dL_act_855 : decode cL_act 855 = .ok (.iaload, 1) := by decide +kernel
theorem dL_act_856 : decode cL_act 856 = .ok (.iload 12, 2) := by decide +kernel
theorem dL_act_858 : decode cL_act 858 = .ok (.iload 14, 2) := by decide +kernel
theorem dL_act_860 : decode cL_act 860 = .ok (.iload 15, 2) := by decide +kernel
theorem dL_act_862 : decode cL_act 862 = .ok (.if_icmp .ge 8, 3) := by decide +kernel
theorem dL_act_865 : decode cL_act 865 = .ok (.iload 14, 2) := by decide +kernel
theorem dL_act_867 : decode cL_act 867 = .ok (.goto 5, 3) := by decide +kernel
theorem dL_act_870 : decode cL_act 870 = .ok (.iload 15, 2) := by decide +kernel
theorem dL_act_872 : decode cL_act 872 = .ok (.imul, 1) := by decide +kernel
theorem dL_act_873 : decode cL_act 873 = .ok (.iadd, 1) := by decide +kernel
theorem dL_act_874 : decode cL_act 874 = .ok (.iastore, 1) := by decide +kernel
theorem dL_act_875 : decode cL_act 875 = .ok (.aload_n 0, 1) := by decide +kernel
theorem dL_act_876 : decode cL_act 876 = .ok (.iload 12, 2) := by decide +kernel
theorem dL_act_878 : decode cL_act 878 = .ok (.invokevirtual 88, 3) := by decide +kernel
theorem dL_act_881 : decode cL_act 881 = .ok (.iload 13, 2) := by decide +kernel
theorem dL_act_883 : decode cL_act 883 = .ok (.if_icmp .ne 7, 3) := by decide +kernel
theorem dL_act_886 : decode cL_act 886 = .ok (.iconst 1, 1) := by decide +kernel
theorem dL_act_887 : decode cL_act 887 = .ok (.goto 4, 3) := by decide +kernel
theorem dL_act_890 : decode cL_act 890 = .ok (.iconst 0, 1) := by decide +kernel
theorem dL_act_891 : decode cL_act 891 = .ok (.ireturn, 1) := by decide +kernel
theorem dL_act_892 : decode cL_act 892 = .ok (.iload 11, 2) := by decide +kernel
theorem dL_act_894 : decode cL_act 894 = .ok (.ifCond .ne 5, 3) := by decide +kernel
theorem dL_act_897 : decode cL_act 897 = .ok (.iconst 1, 1) := by decide +kernel
theorem dL_act_898 : decode cL_act 898 = .ok (.ireturn, 1) := by decide +kernel
theorem dL_act_899 : decode cL_act 899 = .ok (.iload_n 1, 1) := by decide +kernel
theorem dL_act_900 : decode cL_act 900 = .ok (.bipush 12, 2) := by decide +kernel
theorem dL_act_902 : decode cL_act 902 = .ok (.if_icmp .eq 9, 3) := by decide +kernel
theorem dL_act_905 : decode cL_act 905 = .ok (.iload_n 1, 1) := by decide +kernel
theorem dL_act_906 : decode cL_act 906 = .ok (.bipush 13, 2) := by decide +kernel
theorem dL_act_908 : decode cL_act 908 = .ok (.if_icmp .ne 118, 3) := by decide +kernel
theorem dL_act_911 : decode cL_act 911 = .ok (.iload_n 1, 1) := by decide +kernel
theorem dL_act_912 : decode cL_act 912 = .ok (.bipush 12, 2) := by decide +kernel
theorem dL_act_914 : decode cL_act 914 = .ok (.if_icmp .ne 7, 3) := by decide +kernel
theorem dL_act_917 : decode cL_act 917 = .ok (.iconst 2, 1) := by decide +kernel
theorem dL_act_918 : decode cL_act 918 = .ok (.goto 4, 3) := by decide +kernel
theorem dL_act_921 : decode cL_act 921 = .ok (.iconst 1, 1) := by decide +kernel
theorem dL_act_922 : decode cL_act 922 = .ok (.istore 12, 2) := by decide +kernel
theorem dL_act_924 : decode cL_act 924 = .ok (.aload 4, 2) := by decide +kernel
theorem dL_act_926 : decode cL_act 926 = .ok (.bipush 8, 2) := by decide +kernel
theorem dL_act_928 : decode cL_act 928 = .ok (.iload 11, 2) := by decide +kernel
theorem dL_act_930 : decode cL_act 930 = .ok (.imul, 1) := by decide +kernel
theorem dL_act_931 : decode cL_act 931 = .ok (.iload 12, 2) := by decide +kernel
theorem dL_act_933 : decode cL_act 933 = .ok (.iadd, 1) := by decide +kernel
theorem dL_act_934 : decode cL_act 934 = .ok (.iconst 1, 1) := by decide +kernel
theorem dL_act_935 : decode cL_act 935 = .ok (.aload 4, 2) := by decide +kernel
theorem dL_act_937 : decode cL_act 937 = .ok (.bipush 8, 2) := by decide +kernel
theorem dL_act_939 : decode cL_act 939 = .ok (.iload 11, 2) := by decide +kernel
theorem dL_act_941 : decode cL_act 941 = .ok (.imul, 1) := by decide +kernel
theorem dL_act_942 : decode cL_act 942 = .ok (.iload 12, 2) := by decide +kernel
theorem dL_act_944 : decode cL_act 944 = .ok (.iadd, 1) := by decide +kernel
theorem dL_act_945 : decode cL_act 945 = .ok (.iaload, 1) := by decide +kernel
theorem dL_act_946 : decode cL_act 946 = .ok (.isub, 1) := by decide +kernel
theorem dL_act_947 : decode cL_act 947 = .ok (.iastore, 1) := by decide +kernel
theorem dL_act_948 : decode cL_act 948 = .ok (.aload 4, 2) := by decide +kernel
theorem dL_act_950 : decode cL_act 950 = .ok (.aload 5, 2) := by decide +kernel
theorem dL_act_952 : decode cL_act 952 = .ok (.aload 6, 2) := by decide +kernel
theorem dL_act_954 : decode cL_act 954 = .ok (.aload 7, 2) := by decide +kernel
theorem dL_act_956 : decode cL_act 956 = .ok (.aload 8, 2) := by decide +kernel
theorem dL_act_958 : decode cL_act 958 = .ok (.aload 9, 2) := by decide +kernel
theorem dL_act_960 : decode cL_act 960 = .ok (.aload 10, 2) := by decide +kernel
theorem dL_act_962 : decode cL_act 962 = .ok (.invokestatic 54, 3) := by decide +kernel
theorem dL_act_965 : decode cL_act 965 = .ok (.pop, 1) := by decide +kernel
theorem dL_act_966 : decode cL_act 966 = .ok (.iload_n 1, 1) := by decide +kernel
theorem dL_act_967 : decode cL_act 967 = .ok (.bipush 12, 2) := by decide +kernel
theorem dL_act_969 : decode cL_act 969 = .ok (.if_icmp .ne 30, 3) := by decide +kernel
theorem dL_act_972 : decode cL_act 972 = .ok (.aload_n 0, 1) := by decide +kernel
theorem dL_act_973 : decode cL_act 973 = .ok (.iload 11, 2) := by decide +kernel
theorem dL_act_975 : decode cL_act 975 = .ok (.invokevirtual 90, 3) := by decide +kernel
theorem dL_act_978 : decode cL_act 978 = .ok (.aload 4, 2) := by decide +kernel
theorem dL_act_980 : decode cL_act 980 = .ok (.bipush 8, 2) := by decide +kernel
theorem dL_act_982 : decode cL_act 982 = .ok (.iload 11, 2) := by decide +kernel
theorem dL_act_984 : decode cL_act 984 = .ok (.imul, 1) := by decide +kernel
theorem dL_act_985 : decode cL_act 985 = .ok (.iconst 2, 1) := by decide +kernel
theorem dL_act_986 : decode cL_act 986 = .ok (.iadd, 1) := by decide +kernel
theorem dL_act_987 : decode cL_act 987 = .ok (.iaload, 1) := by decide +kernel
theorem dL_act_988 : decode cL_act 988 = .ok (.if_icmp .ne 7, 3) := by decide +kernel
theorem dL_act_991 : decode cL_act 991 = .ok (.iconst 1, 1) := by decide +kernel
theorem dL_act_992 : decode cL_act 992 = .ok (.goto 33, 3) := by decide +kernel
theorem dL_act_995 : decode cL_act 995 = .ok (.iconst 0, 1) := by decide +kernel
theorem dL_act_996 : decode cL_act 996 = .ok (.goto 29, 3) := by decide +kernel
theorem dL_act_999 : decode cL_act 999 = .ok (.aload_n 0, 1) := by decide +kernel
theorem dL_act_1000 : decode cL_act 1000 = .ok (.iload 11, 2) := by decide +kernel
theorem dL_act_1002 : decode cL_act 1002 = .ok (.invokevirtual 93, 3) := by decide +kernel
theorem dL_act_1005 : decode cL_act 1005 = .ok (.aload 4, 2) := by decide +kernel
theorem dL_act_1007 : decode cL_act 1007 = .ok (.aload 5, 2) := by decide +kernel
theorem dL_act_1009 : decode cL_act 1009 = .ok (.aload 7, 2) := by decide +kernel
theorem dL_act_1011 : decode cL_act 1011 = .ok (.aload 8, 2) := by decide +kernel
theorem dL_act_1013 : decode cL_act 1013 = .ok (.iconst 0, 1) := by decide +kernel
theorem dL_act_1014 : decode cL_act 1014 = .ok (.invokestatic 47, 3) := by decide +kernel
theorem dL_act_1017 : decode cL_act 1017 = .ok (.if_icmp .ne 7, 3) := by decide +kernel
theorem dL_act_1020 : decode cL_act 1020 = .ok (.iconst 1, 1) := by decide +kernel
theorem dL_act_1021 : decode cL_act 1021 = .ok (.goto 4, 3) := by decide +kernel
theorem dL_act_1024 : decode cL_act 1024 = .ok (.iconst 0, 1) := by decide +kernel
theorem dL_act_1025 : decode cL_act 1025 = .ok (.ireturn, 1) := by decide +kernel
theorem dL_act_1026 : decode cL_act 1026 = .ok (.aload 7, 2) := by decide +kernel
theorem dL_act_1028 : decode cL_act 1028 = .ok (.iconst 3, 1) := by decide +kernel
theorem dL_act_1029 : decode cL_act 1029 = .ok (.iaload, 1) := by decide +kernel
theorem dL_act_1030 : decode cL_act 1030 = .ok (.ifCond .ne 29, 3) := by decide +kernel
theorem dL_act_1033 : decode cL_act 1033 = .ok (.aload 7, 2) := by decide +kernel
theorem dL_act_1035 : decode cL_act 1035 = .ok (.iconst 3, 1) := by decide +kernel
theorem dL_act_1036 : decode cL_act 1036 = .ok (.dup2, 1) := by decide +kernel
theorem dL_act_1037 : decode cL_act 1037 = .ok (.iaload, 1) := by decide +kernel
theorem dL_act_1038 : decode cL_act 1038 = .ok (.iconst 3, 1) := by decide +kernel
theorem dL_act_1039 : decode cL_act 1039 = .ok (.iadd, 1) := by decide +kernel
theorem dL_act_1040 : decode cL_act 1040 = .ok (.iastore, 1) := by decide +kernel
theorem dL_act_1041 : decode cL_act 1041 = .ok (.aload_n 0, 1) := by decide +kernel
theorem dL_act_1042 : decode cL_act 1042 = .ok (.iconst 3, 1) := by decide +kernel
theorem dL_act_1043 : decode cL_act 1043 = .ok (.invokevirtual 96, 3) := by decide +kernel
theorem dL_act_1046 : decode cL_act 1046 = .ok (.aload 7, 2) := by decide +kernel
theorem dL_act_1048 : decode cL_act 1048 = .ok (.iconst 3, 1) := by decide +kernel
theorem dL_act_1049 : decode cL_act 1049 = .ok (.iaload, 1) := by decide +kernel
theorem dL_act_1050 : decode cL_act 1050 = .ok (.if_icmp .ne 7, 3) := by decide +kernel
theorem dL_act_1053 : decode cL_act 1053 = .ok (.iconst 1, 1) := by decide +kernel
theorem dL_act_1054 : decode cL_act 1054 = .ok (.goto 4, 3) := by decide +kernel
theorem dL_act_1057 : decode cL_act 1057 = .ok (.iconst 0, 1) := by decide +kernel
theorem dL_act_1058 : decode cL_act 1058 = .ok (.ireturn, 1) := by decide +kernel
theorem dL_act_1059 : decode cL_act 1059 = .ok (.iload_n 2, 1) := by decide +kernel
theorem dL_act_1060 : decode cL_act 1060 = .ok (.iconst 5, 1) := by decide +kernel
theorem dL_act_1061 : decode cL_act 1061 = .ok (.ishr, 1) := by decide +kernel
theorem dL_act_1062 : decode cL_act 1062 = .ok (.iconst 2, 1) := by decide +kernel
theorem dL_act_1063 : decode cL_act 1063 = .ok (.invokestatic 51, 3) := by decide +kernel
theorem dL_act_1066 : decode cL_act 1066 = .ok (.istore 12, 2) := by decide +kernel
theorem dL_act_1068 : decode cL_act 1068 = .ok (.aload 7, 2) := by decide +kernel
theorem dL_act_1070 : decode cL_act 1070 = .ok (.iconst 3, 1) := by decide +kernel
theorem dL_act_1071 : decode cL_act 1071 = .ok (.dup2, 1) := by decide +kernel
theorem dL_act_1072 : decode cL_act 1072 = .ok (.iaload, 1) := by decide +kernel
theorem dL_act_1073 : decode cL_act 1073 = .ok (.iconst 1, 1) := by decide +kernel
theorem dL_act_1074 : decode cL_act 1074 = .ok (.isub, 1) := by decide +kernel
theorem dL_act_1075 : decode cL_act 1075 = .ok (.iastore, 1) := by decide +kernel
theorem dL_act_1076 : decode cL_act 1076 = .ok (.aload 4, 2) := by decide +kernel
theorem dL_act_1078 : decode cL_act 1078 = .ok (.bipush 8, 2) := by decide +kernel
theorem dL_act_1080 : decode cL_act 1080 = .ok (.iload 11, 2) := by decide +kernel
theorem dL_act_1082 : decode cL_act 1082 = .ok (.imul, 1) := by decide +kernel
theorem dL_act_1083 : decode cL_act 1083 = .ok (.iconst 3, 1) := by decide +kernel
theorem dL_act_1084 : decode cL_act 1084 = .ok (.iadd, 1) := by decide +kernel
theorem dL_act_1085 : decode cL_act 1085 = .ok (.iload 12, 2) := by decide +kernel
theorem dL_act_1087 : decode cL_act 1087 = .ok (.iadd, 1) := by decide +kernel
theorem dL_act_1088 : decode cL_act 1088 = .ok (.iconst 1, 1) := by decide +kernel
theorem dL_act_1089 : decode cL_act 1089 = .ok (.iload_n 3, 1) := by decide +kernel
theorem dL_act_1090 : decode cL_act 1090 = .ok (.bipush 60, 2) := by decide +kernel
theorem dL_act_1092 : decode cL_act 1092 = .ok (.invokestatic 51, 3) := by decide +kernel
theorem dL_act_1095 : decode cL_act 1095 = .ok (.iadd, 1) := by decide +kernel
theorem dL_act_1096 : decode cL_act 1096 = .ok (.iastore, 1) := by decide +kernel
theorem dL_act_1097 : decode cL_act 1097 = .ok (.aload 4, 2) := by decide +kernel
theorem dL_act_1099 : decode cL_act 1099 = .ok (.bipush 8, 2) := by decide +kernel
theorem dL_act_1101 : decode cL_act 1101 = .ok (.iload 11, 2) := by decide +kernel
theorem dL_act_1103 : decode cL_act 1103 = .ok (.imul, 1) := by decide +kernel
theorem dL_act_1104 : decode cL_act 1104 = .ok (.iconst 5, 1) := by decide +kernel
theorem dL_act_1105 : decode cL_act 1105 = .ok (.iadd, 1) := by decide +kernel
theorem dL_act_1106 : decode cL_act 1106 = .ok (.iload 12, 2) := by decide +kernel
theorem dL_act_1108 : decode cL_act 1108 = .ok (.iadd, 1) := by decide +kernel
theorem dL_act_1109 : decode cL_act 1109 = .ok (.iconst 0, 1) := by decide +kernel
theorem dL_act_1110 : decode cL_act 1110 = .ok (.iastore, 1) := by decide +kernel
theorem dL_act_1111 : decode cL_act 1111 = .ok (.aload 4, 2) := by decide +kernel
theorem dL_act_1113 : decode cL_act 1113 = .ok (.bipush 8, 2) := by decide +kernel
theorem dL_act_1115 : decode cL_act 1115 = .ok (.iload 11, 2) := by decide +kernel
theorem dL_act_1117 : decode cL_act 1117 = .ok (.imul, 1) := by decide +kernel
theorem dL_act_1118 : decode cL_act 1118 = .ok (.iconst 3, 1) := by decide +kernel
theorem dL_act_1119 : decode cL_act 1119 = .ok (.iadd, 1) := by decide +kernel
theorem dL_act_1120 : decode cL_act 1120 = .ok (.iload 12, 2) := by decide +kernel
theorem dL_act_1122 : decode cL_act 1122 = .ok (.iadd, 1) := by decide +kernel
theorem dL_act_1123 : decode cL_act 1123 = .ok (.iaload, 1) := by decide +kernel
theorem dL_act_1124 : decode cL_act 1124 = .ok (.istore 13, 2) := by decide +kernel
theorem dL_act_1126 : decode cL_act 1126 = .ok (.aload 4, 2) := by decide +kernel
theorem dL_act_1128 : decode cL_act 1128 = .ok (.aload 5, 2) := by decide +kernel
theorem dL_act_1130 : decode cL_act 1130 = .ok (.aload 6, 2) := by decide +kernel
theorem dL_act_1132 : decode cL_act 1132 = .ok (.aload 7, 2) := by decide +kernel
theorem dL_act_1134 : decode cL_act 1134 = .ok (.aload 8, 2) := by decide +kernel
theorem dL_act_1136 : decode cL_act 1136 = .ok (.aload 9, 2) := by decide +kernel
theorem dL_act_1138 : decode cL_act 1138 = .ok (.aload 10, 2) := by decide +kernel
theorem dL_act_1140 : decode cL_act 1140 = .ok (.invokestatic 54, 3) := by decide +kernel
theorem dL_act_1143 : decode cL_act 1143 = .ok (.pop, 1) := by decide +kernel
theorem dL_act_1144 : decode cL_act 1144 = .ok (.aload_n 0, 1) := by decide +kernel
theorem dL_act_1145 : decode cL_act 1145 = .ok (.iload 11, 2) := by decide +kernel
theorem dL_act_1147 : decode cL_act 1147 = .ok (.iload 12, 2) := by decide +kernel
theorem dL_act_1149 : decode cL_act 1149 = .ok (.iload 13, 2) := by decide +kernel
theorem dL_act_1151 : decode cL_act 1151 = .ok (.invokevirtual 99, 3) := by decide +kernel
theorem dL_act_1154 : decode cL_act 1154 = .ok (.iconst 1, 1) := by decide +kernel
theorem dL_act_1155 : decode cL_act 1155 = .ok (.aload 4, 2) := by decide +kernel
theorem dL_act_1157 : decode cL_act 1157 = .ok (.bipush 8, 2) := by decide +kernel
theorem dL_act_1159 : decode cL_act 1159 = .ok (.iload 11, 2) := by decide +kernel
theorem dL_act_1161 : decode cL_act 1161 = .ok (.imul, 1) := by decide +kernel
theorem dL_act_1162 : decode cL_act 1162 = .ok (.iconst 5, 1) := by decide +kernel
theorem dL_act_1163 : decode cL_act 1163 = .ok (.iadd, 1) := by decide +kernel
theorem dL_act_1164 : decode cL_act 1164 = .ok (.iload 12, 2) := by decide +kernel
theorem dL_act_1166 : decode cL_act 1166 = .ok (.iadd, 1) := by decide +kernel
theorem dL_act_1167 : decode cL_act 1167 = .ok (.iaload, 1) := by decide +kernel
theorem dL_act_1168 : decode cL_act 1168 = .ok (.isub, 1) := by decide +kernel
theorem dL_act_1169 : decode cL_act 1169 = .ok (.if_icmp .ne 7, 3) := by decide +kernel
theorem dL_act_1172 : decode cL_act 1172 = .ok (.iconst 1, 1) := by decide +kernel
theorem dL_act_1173 : decode cL_act 1173 = .ok (.goto 4, 3) := by decide +kernel
theorem dL_act_1176 : decode cL_act 1176 = .ok (.iconst 0, 1) := by decide +kernel
theorem dL_act_1177 : decode cL_act 1177 = .ok (.ireturn, 1) := by decide +kernel
