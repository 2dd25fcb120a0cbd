theorem dX10_init_0 : decode cX10_init 0 = .ok (.aload_n 0, 1) := by decide +kernel
theorem dX10_init_1 : decode cX10_init 1 = .ok (.invokespecial 3, 3) := by decide +kernel
theorem dX10_init_4 : decode cX10_init 4 = .ok (.aload_n 0, 1) := by decide +kernel
theorem dX10_init_5 : decode cX10_init 5 = .ok (.bipush 12, 2) := by decide +kernel
theorem dX10_init_7 : decode cX10_init 7 = .ok (.newarray .int, 2) := by decide +kernel
theorem dX10_init_9 : decode cX10_init 9 = .ok (.putfield 9, 3) := by decide +kernel
theorem dX10_init_12 : decode cX10_init 12 = .ok (.aload_n 0, 1) := by decide +kernel
theorem dX10_init_13 : decode cX10_init 13 = .ok (.bipush 12, 2) := by decide +kernel
theorem dX10_init_15 : decode cX10_init 15 = .ok (.newarray .int, 2) := by decide +kernel
theorem dX10_init_17 : decode cX10_init 17 = .ok (.putfield 15, 3) := by decide +kernel
theorem dX10_init_20 : decode cX10_init 20 = .ok (.aload_n 0, 1) := by decide +kernel
theorem dX10_init_21 : decode cX10_init 21 = .ok (.bipush 12, 2) := by decide +kernel
theorem dX10_init_23 : decode cX10_init 23 = .ok (.newarray .int, 2) := by decide +kernel
theorem dX10_init_25 : decode cX10_init 25 = .ok (.putfield 18, 3) := by decide +kernel
theorem dX10_init_28 : decode cX10_init 28 = .ok (.aload_n 0, 1) := by decide +kernel
theorem dX10_init_29 : decode cX10_init 29 = .ok (.bipush 12, 2) := by decide +kernel
theorem dX10_init_31 : decode cX10_init 31 = .ok (.newarray .int, 2) := by decide +kernel
theorem dX10_init_33 : decode cX10_init 33 = .ok (.putfield 21, 3) := by decide +kernel
theorem dX10_init_36 : decode cX10_init 36 = .ok (.aload_n 0, 1) := by decide +kernel
theorem dX10_init_37 : decode cX10_init 37 = .ok (.bipush 12, 2) := by decide +kernel
theorem dX10_init_39 : decode cX10_init 39 = .ok (.newarray .int, 2) := by decide +kernel
theorem dX10_init_41 : decode cX10_init 41 = .ok (.putfield 24, 3) := by decide +kernel
theorem dX10_init_44 : decode cX10_init 44 = .ok (.aload_n 0, 1) := by decide +kernel
theorem dX10_init_45 : decode cX10_init 45 = .ok (.bipush 6, 2) := by decide +kernel
theorem dX10_init_47 : decode cX10_init 47 = .ok (.newarray .int, 2) := by decide +kernel
theorem dX10_init_49 : decode cX10_init 49 = .ok (.putfield 27, 3) := by decide +kernel
theorem dX10_init_52 : decode cX10_init 52 = .ok (.aload_n 0, 1) := by decide +kernel
theorem dX10_init_53 : decode cX10_init 53 = .ok (.bipush 6, 2) := by decide +kernel
theorem dX10_init_55 : decode cX10_init 55 = .ok (.newarray .int, 2) := by decide +kernel
theorem dX10_init_57 : decode cX10_init 57 = .ok (.putfield 30, 3) := by decide +kernel
theorem dX10_init_60 : decode cX10_init 60 = .ok (.aload_n 0, 1) := by decide +kernel
theorem dX10_init_61 : decode cX10_init 61 = .ok (.iconst 3, 1) := by decide +kernel
theorem dX10_init_62 : decode cX10_init 62 = .ok (.newarray .int, 2) := by decide +kernel
theorem dX10_init_64 : decode cX10_init 64 = .ok (.dup, 1) := by decide +kernel
theorem dX10_init_65 : decode cX10_init 65 = .ok (.iconst 0, 1) := by decide +kernel
theorem dX10_init_66 : decode cX10_init 66 = .ok (.iconst 0, 1) := by decide +kernel
theorem dX10_init_67 : decode cX10_init 67 = .ok (.iastore, 1) := by decide +kernel
theorem dX10_init_68 : decode cX10_init 68 = .ok (.dup, 1) := by decide +kernel
theorem dX10_init_69 : decode cX10_init 69 = .ok (.iconst 1, 1) := by decide +kernel
theorem dX10_init_70 : decode cX10_init 70 = .ok (.iconst 1, 1) := by decide +kernel
theorem dX10_init_71 : decode cX10_init 71 = .ok (.iastore, 1) := by decide +kernel
theorem dX10_init_72 : decode cX10_init 72 = .ok (.dup, 1) := by decide +kernel
theorem dX10_init_73 : decode cX10_init 73 = .ok (.iconst 2, 1) := by decide +kernel
theorem dX10_init_74 : decode cX10_init 74 = .ok (.bipush 10, 2) := by decide +kernel
theorem dX10_init_76 : decode cX10_init 76 = .ok (.iastore, 1) := by decide +kernel
theorem dX10_init_77 : decode cX10_init 77 = .ok (.putfield 33, 3) := by decide +kernel
theorem dX10_init_80 : decode cX10_init 80 = .ok (.aload_n 0, 1) := by decide +kernel
theorem dX10_init_81 : decode cX10_init 81 = .ok (.bipush 40, 2) := by decide +kernel
theorem dX10_init_83 : decode cX10_init 83 = .ok (.newarray .int, 2) := by decide +kernel
theorem dX10_init_85 : decode cX10_init 85 = .ok (.putfield 36, 3) := by decide +kernel
theorem dX10_init_88 : decode cX10_init 88 = .ok (.aload_n 0, 1) := by decide +kernel
theorem dX10_init_89 : decode cX10_init 89 = .ok (.bipush 40, 2) := by decide +kernel
theorem dX10_init_91 : decode cX10_init 91 = .ok (.newarray .int, 2) := by decide +kernel
theorem dX10_init_93 : decode cX10_init 93 = .ok (.putfield 39, 3) := by decide +kernel
theorem dX10_init_96 : decode cX10_init 96 = .ok (.aload_n 0, 1) := by decide +kernel
theorem dX10_init_97 : decode cX10_init 97 = .ok (.bipush 40, 2) := by decide +kernel
theorem dX10_init_99 : decode cX10_init 99 = .ok (.newarray .int, 2) := by decide +kernel
theorem dX10_init_101 : decode cX10_init 101 = .ok (.putfield 42, 3) := by decide +kernel
theorem dX10_init_104 : decode cX10_init 104 = .ok (.aload_n 0, 1) := by decide +kernel
theorem dX10_init_105 : decode cX10_init 105 = .ok (.bipush 40, 2) := by decide +kernel
theorem dX10_init_107 : decode cX10_init 107 = .ok (.newarray .int, 2) := by decide +kernel
theorem dX10_init_109 : decode cX10_init 109 = .ok (.putfield 45, 3) := by decide +kernel
theorem dX10_init_112 : decode cX10_init 112 = .ok (.aload_n 0, 1) := by decide +kernel
theorem dX10_init_113 : decode cX10_init 113 = .ok (.bipush 120, 2) := by decide +kernel
theorem dX10_init_115 : decode cX10_init 115 = .ok (.newarray .byte, 2) := by decide +kernel
theorem dX10_init_117 : decode cX10_init 117 = .ok (.putfield 48, 3) := by decide +kernel
theorem dX10_init_120 : decode cX10_init 120 = .ok (.aload_n 0, 1) := by decide +kernel
theorem dX10_init_121 : decode cX10_init 121 = .ok (.sipush 260, 3) := by decide +kernel
theorem dX10_init_124 : decode cX10_init 124 = .ok (.newarray .byte, 2) := by decide +kernel
theorem dX10_init_126 : decode cX10_init 126 = .ok (.putfield 52, 3) := by decide +kernel
theorem dX10_init_129 : decode cX10_init 129 = .ok (.aload_n 0, 1) := by decide +kernel
theorem dX10_init_130 : decode cX10_init 130 = .ok (.sipush 260, 3) := by decide +kernel
theorem dX10_init_133 : decode cX10_init 133 = .ok (.newarray .int, 2) := by decide +kernel
theorem dX10_init_135 : decode cX10_init 135 = .ok (.putfield 55, 3) := by decide +kernel
theorem dX10_init_138 : decode cX10_init 138 = .ok (.aload_n 0, 1) := by decide +kernel
theorem dX10_init_139 : decode cX10_init 139 = .ok (.iconst 2, 1) := by decide +kernel
theorem dX10_init_140 : decode cX10_init 140 = .ok (.newarray .int, 2) := by decide +kernel
theorem dX10_init_142 : decode cX10_init 142 = .ok (.putfield 58, 3) := by decide +kernel
theorem dX10_init_145 : decode cX10_init 145 = .ok (.aload_n 0, 1) := by decide +kernel
theorem dX10_init_146 : decode cX10_init 146 = .ok (.bipush 122, 2) := by decide +kernel
theorem dX10_init_148 : decode cX10_init 148 = .ok (.newarray .short, 2) := by decide +kernel
theorem dX10_init_150 : decode cX10_init 150 = .ok (.putfield 61, 3) := by decide +kernel
theorem dX10_init_153 : decode cX10_init 153 = .ok (.aload_n 0, 1) := by decide +kernel
theorem dX10_init_154 : decode cX10_init 154 = .ok (.bipush 122, 2) := by decide +kernel
theorem dX10_init_156 : decode cX10_init 156 = .ok (.newarray .short, 2) := by decide +kernel
theorem dX10_init_158 : decode cX10_init 158 = .ok (.putfield 65, 3) := by decide +kernel
theorem dX10_init_161 : decode cX10_init 161 = .ok (.aload_n 0, 1) := by decide +kernel
theorem dX10_init_162 : decode cX10_init 162 = .ok (.bipush 6, 2) := by decide +kernel
theorem dX10_init_164 : decode cX10_init 164 = .ok (.newarray .int, 2) := by decide +kernel
theorem dX10_init_166 : decode cX10_init 166 = .ok (.putfield 68, 3) := by decide +kernel
theorem dX10_init_169 : decode cX10_init 169 = .ok (.aload_n 0, 1) := by decide +kernel
theorem dX10_init_170 : decode cX10_init 170 = .ok (.sipush 130, 3) := by decide +kernel
theorem dX10_init_173 : decode cX10_init 173 = .ok (.newarray .int, 2) := by decide +kernel
theorem dX10_init_175 : decode cX10_init 175 = .ok (.putfield 71, 3) := by decide +kernel
theorem dX10_init_178 : decode cX10_init 178 = .ok (.aload_n 0, 1) := by decide +kernel
theorem dX10_init_179 : decode cX10_init 179 = .ok (.bipush 12, 2) := by decide +kernel
theorem dX10_init_181 : decode cX10_init 181 = .ok (.newarray .int, 2) := by decide +kernel
theorem dX10_init_183 : decode cX10_init 183 = .ok (.putfield 74, 3) := by decide +kernel
theorem dX10_init_186 : decode cX10_init 186 = .ok (.aload_n 0, 1) := by decide +kernel
theorem dX10_init_187 : decode cX10_init 187 = .ok (.bipush 13, 2) := by decide +kernel
theorem dX10_init_189 : decode cX10_init 189 = .ok (.newarray .int, 2) := by decide +kernel
theorem dX10_init_191 : decode cX10_init 191 = .ok (.putfield 77, 3) := by decide +kernel
theorem dX10_init_194 : decode cX10_init 194 = .ok (.aload_n 0, 1) := by decide +kernel
theorem dX10_init_195 : decode cX10_init 195 = .ok (.bipush 13, 2) := by decide +kernel
theorem dX10_init_197 : decode cX10_init 197 = .ok (.newarray .int, 2) := by decide +kernel
theorem dX10_init_199 : decode cX10_init 199 = .ok (.putfield 80, 3) := by decide +kernel
theorem dX10_init_202 : decode cX10_init 202 = .ok (.aload_n 0, 1) := by decide +kernel
theorem dX10_init_203 : decode cX10_init 203 = .ok (.sipush 3584, 3) := by decide +kernel
theorem dX10_init_206 : decode cX10_init 206 = .ok (.newarray .int, 2) := by decide +kernel
theorem dX10_init_208 : decode cX10_init 208 = .ok (.putfield 83, 3) := by decide +kernel
theorem dX10_init_211 : decode cX10_init 211 = .ok (.aload_n 0, 1) := by decide +kernel
theorem dX10_init_212 : decode cX10_init 212 = .ok (.sipush 512, 3) := by decide +kernel
theorem dX10_init_215 : decode cX10_init 215 = .ok (.newarray .int, 2) := by decide +kernel
theorem dX10_init_217 : decode cX10_init 217 = .ok (.putfield 86, 3) := by decide +kernel
theorem dX10_init_220 : decode cX10_init 220 = .ok (.aload_n 0, 1) := by decide +kernel
theorem dX10_init_221 : decode cX10_init 221 = .ok (.sipush 512, 3) := by decide +kernel
theorem dX10_init_224 : decode cX10_init 224 = .ok (.newarray .int, 2) := by decide +kernel
theorem dX10_init_226 : decode cX10_init 226 = .ok (.putfield 89, 3) := by decide +kernel
theorem dX10_init_229 : decode cX10_init 229 = .ok (.aload_n 0, 1) := by decide +kernel
theorem dX10_init_230 : decode cX10_init 230 = .ok (.bipush 64, 2) := by decide +kernel
theorem dX10_init_232 : decode cX10_init 232 = .ok (.newarray .int, 2) := by decide +kernel
theorem dX10_init_234 : decode cX10_init 234 = .ok (.putfield 92, 3) := by decide +kernel
theorem dX10_init_237 : decode cX10_init 237 = .ok (.aload_n 0, 1) := by decide +kernel
theorem dX10_init_238 : decode cX10_init 238 = .ok (.bipush 112, 2) := by decide +kernel
theorem dX10_init_240 : decode cX10_init 240 = .ok (.newarray .long, 2) := by decide +kernel
theorem dX10_init_242 : decode cX10_init 242 = .ok (.putfield 95, 3) := by decide +kernel
theorem dX10_init_245 : decode cX10_init 245 = .ok (.aload_n 0, 1) := by decide +kernel
theorem dX10_init_246 : decode cX10_init 246 = .ok (.bipush 112, 2) := by decide +kernel
theorem dX10_init_248 : decode cX10_init 248 = .ok (.newarray .long, 2) := by decide +kernel
theorem dX10_init_250 : decode cX10_init 250 = .ok (.putfield 99, 3) := by decide +kernel
theorem dX10_init_253 : decode cX10_init 253 = .ok (.aload_n 0, 1) := by decide +kernel
theorem dX10_init_254 : decode cX10_init 254 = .ok (.bipush 112, 2) := by decide +kernel
theorem dX10_init_256 : decode cX10_init 256 = .ok (.newarray .long, 2) := by decide +kernel
theorem dX10_init_258 : decode cX10_init 258 = .ok (.putfield 102, 3) := by decide +kernel
theorem dX10_init_261 : decode cX10_init 261 = .ok (.aload_n 0, 1) := by decide +kernel
theorem dX10_init_262 : decode cX10_init 262 = .ok (.iconst 5, 1) := by decide +kernel
theorem dX10_init_263 : decode cX10_init 263 = .ok (.newarray .int, 2) := by decide +kernel
theorem dX10_init_265 : decode cX10_init 265 = .ok (.putfield 105, 3) := by decide +kernel
theorem dX10_init_268 : decode cX10_init 268 = .ok (.aload_n 0, 1) := by decide +kernel
theorem dX10_init_269 : decode cX10_init 269 = .ok (.bipush 6, 2) := by decide +kernel
theorem dX10_init_271 : decode cX10_init 271 = .ok (.newarray .int, 2) := by decide +kernel
theorem dX10_init_273 : decode cX10_init 273 = .ok (.putfield 108, 3) := by decide +kernel
theorem dX10_init_276 : decode cX10_init 276 = .ok (.aload_n 0, 1) := by decide +kernel
theorem dX10_init_277 : decode cX10_init 277 = .ok (.bipush 6, 2) := by decide +kernel
theorem dX10_init_279 : decode cX10_init 279 = .ok (.newarray .int, 2) := by decide +kernel
theorem dX10_init_281 : decode cX10_init 281 = .ok (.putfield 111, 3) := by decide +kernel
theorem dX10_init_284 : decode cX10_init 284 = .ok (.aload_n 0, 1) := by decide +kernel
theorem dX10_init_285 : decode cX10_init 285 = .ok (.iconst 5, 1) := by decide +kernel
theorem dX10_init_286 : decode cX10_init 286 = .ok (.newarray .int, 2) := by decide +kernel
theorem dX10_init_288 : decode cX10_init 288 = .ok (.putfield 114, 3) := by decide +kernel
theorem dX10_init_291 : decode cX10_init 291 = .ok (.aload_n 0, 1) := by decide +kernel
theorem dX10_init_292 : decode cX10_init 292 = .ok (.bipush 50, 2) := by decide +kernel
theorem dX10_init_294 : decode cX10_init 294 = .ok (.newarray .int, 2) := by decide +kernel
theorem dX10_init_296 : decode cX10_init 296 = .ok (.putfield 117, 3) := by decide +kernel
theorem dX10_init_299 : decode cX10_init 299 = .ok (.aload_n 0, 1) := by decide +kernel
theorem dX10_init_300 : decode cX10_init 300 = .ok (.bipush 24, 2) := by decide +kernel
theorem dX10_init_302 : decode cX10_init 302 = .ok (.newarray .int, 2) := by decide +kernel
theorem dX10_init_304 : decode cX10_init 304 = .ok (.putfield 120, 3) := by decide +kernel
theorem dX10_init_307 : decode cX10_init 307 = .ok (.aload_n 0, 1) := by decide +kernel
theorem dX10_init_308 : decode cX10_init 308 = .ok (.bipush 6, 2) := by decide +kernel
theorem dX10_init_310 : decode cX10_init 310 = .ok (.newarray .int, 2) := by decide +kernel
theorem dX10_init_312 : decode cX10_init 312 = .ok (.dup, 1) := by decide +kernel
theorem dX10_init_313 : decode cX10_init 313 = .ok (.iconst 0, 1) := by decide +kernel
theorem dX10_init_314 : decode cX10_init 314 = .ok (.iconst (-1), 1) := by decide +kernel
theorem dX10_init_315 : decode cX10_init 315 = .ok (.iastore, 1) := by decide +kernel
theorem dX10_init_316 : decode cX10_init 316 = .ok (.dup, 1) := by decide +kernel
theorem dX10_init_317 : decode cX10_init 317 = .ok (.iconst 1, 1) := by decide +kernel
theorem dX10_init_318 : decode cX10_init 318 = .ok (.iconst (-1), 1) := by decide +kernel
theorem dX10_init_319 : decode cX10_init 319 = .ok (.iastore, 1) := by decide +kernel
theorem dX10_init_320 : decode cX10_init 320 = .ok (.dup, 1) := by decide +kernel
theorem dX10_init_321 : decode cX10_init 321 = .ok (.iconst 2, 1) := by decide +kernel
theorem dX10_init_322 : decode cX10_init 322 = .ok (.iconst (-1), 1) := by decide +kernel
theorem dX10_init_323 : decode cX10_init 323 = .ok (.iastore, 1) := by decide +kernel
theorem dX10_init_324 : decode cX10_init 324 = .ok (.dup, 1) := by decide +kernel
theorem dX10_init_325 : decode cX10_init 325 = .ok (.iconst 3, 1) := by decide +kernel
theorem dX10_init_326 : decode cX10_init 326 = .ok (.iconst (-1), 1) := by decide +kernel
theorem dX10_init_327 : decode cX10_init 327 = .ok (.iastore, 1) := by decide +kernel
theorem dX10_init_328 : decode cX10_init 328 = .ok (.dup, 1) := by decide +kernel
theorem dX10_init_329 : decode cX10_init 329 = .ok (.iconst 4, 1) := by decide +kernel
theorem dX10_init_330 : decode cX10_init 330 = .ok (.iconst (-1), 1) := by decide +kernel
theorem dX10_init_331 : decode cX10_init 331 = .ok (.iastore, 1) := by decide +kernel
theorem dX10_init_332 : decode cX10_init 332 = .ok (.dup, 1) := by decide +kernel
theorem dX10_init_333 : decode cX10_init 333 = .ok (.iconst 5, 1) := by decide +kernel
theorem dX10_init_334 : decode cX10_init 334 = .ok (.iconst (-1), 1) := by decide +kernel
theorem dX10_init_335 : decode cX10_init 335 = .ok (.iastore, 1) := by decide +kernel
theorem dX10_init_336 : decode cX10_init 336 = .ok (.putfield 123, 3) := by decide +kernel
theorem dX10_init_339 : decode cX10_init 339 = .ok (.aload_n 0, 1) := by decide +kernel
theorem dX10_init_340 : decode cX10_init 340 = .ok (.bipush 6, 2) := by decide +kernel
theorem dX10_init_342 : decode cX10_init 342 = .ok (.newarray .int, 2) := by decide +kernel
theorem dX10_init_344 : decode cX10_init 344 = .ok (.putfield 126, 3) := by decide +kernel
theorem dX10_init_347 : decode cX10_init 347 = .ok (.aload_n 0, 1) := by decide +kernel
theorem dX10_init_348 : decode cX10_init 348 = .ok (.sipush 360, 3) := by decide +kernel
theorem dX10_init_351 : decode cX10_init 351 = .ok (.newarray .long, 2) := by decide +kernel
theorem dX10_init_353 : decode cX10_init 353 = .ok (.putfield 129, 3) := by decide +kernel
theorem dX10_init_356 : decode cX10_init 356 = .ok (.aload_n 0, 1) := by decide +kernel
theorem dX10_init_357 : decode cX10_init 357 = .ok (.bipush 60, 2) := by decide +kernel
theorem dX10_init_359 : decode cX10_init 359 = .ok (.newarray .long, 2) := by decide +kernel
theorem dX10_init_361 : decode cX10_init 361 = .ok (.putfield 132, 3) := by decide +kernel
theorem dX10_init_364 : decode cX10_init 364 = .ok (.return_, 1) := by decide +kernel
theorem dX10_in_0 : decode cX10_in 0 = .ok (.iload_n 0, 1) := by decide +kernel
theorem dX10_in_1 : decode cX10_in 1 = .ok (.iload_n 1, 1) := by decide +kernel
theorem dX10_in_2 : decode cX10_in 2 = .ok (.if_icmp .lt 12, 3) := by decide +kernel
theorem dX10_in_5 : decode cX10_in 5 = .ok (.iload_n 0, 1) := by decide +kernel
theorem dX10_in_6 : decode cX10_in 6 = .ok (.iload_n 2, 1) := by decide +kernel
theorem dX10_in_7 : decode cX10_in 7 = .ok (.if_icmp .gt 7, 3) := by decide +kernel
theorem dX10_in_10 : decode cX10_in 10 = .ok (.iconst 1, 1) := by decide +kernel
theorem dX10_in_11 : decode cX10_in 11 = .ok (.goto 4, 3) := by decide +kernel
theorem dX10_in_14 : decode cX10_in 14 = .ok (.iconst 0, 1) := by decide +kernel
theorem dX10_in_15 : decode cX10_in 15 = .ok (.ireturn, 1) := by decide +kernel
theorem dX10_bitsOf_0 : decode cX10_bitsOf 0 = .ok (.iconst 0, 1) := by decide +kernel
theorem dX10_bitsOf_1 : decode cX10_bitsOf 1 = .ok (.istore_n 1, 1) := by decide +kernel
theorem dX10_bitsOf_2 : decode cX10_bitsOf 2 = .ok (.iload_n 0, 1) := by decide +kernel
theorem dX10_bitsOf_3 : decode cX10_bitsOf 3 = .ok (.istore_n 2, 1) := by decide +kernel
theorem dX10_bitsOf_4 : decode cX10_bitsOf 4 = .ok (.iload_n 2, 1) := by decide +kernel
theorem dX10_bitsOf_5 : decode cX10_bitsOf 5 = .ok (.ifCond .eq 15, 3) := by decide +kernel
theorem dX10_bitsOf_8 : decode cX10_bitsOf 8 = .ok (.iinc 1 1, 3) := by decide +kernel
theorem dX10_bitsOf_11 : decode cX10_bitsOf 11 = .ok (.iload_n 2, 1) := by decide +kernel
theorem dX10_bitsOf_12 : decode cX10_bitsOf 12 = .ok (.iload_n 2, 1) := by decide +kernel
theorem dX10_bitsOf_13 : decode cX10_bitsOf 13 = .ok (.iconst 1, 1) := by decide +kernel
theorem dX10_bitsOf_14 : decode cX10_bitsOf 14 = .ok (.isub, 1) := by decide +kernel
theorem dX10_bitsOf_15 : decode cX10_bitsOf 15 = .ok (.iand, 1) := by decide +kernel
theorem dX10_bitsOf_16 : decode cX10_bitsOf 16 = .ok (.istore_n 2, 1) := by decide +kernel
theorem dX10_bitsOf_17 : decode cX10_bitsOf 17 = .ok (.goto (-13), 3) := by decide +kernel
theorem dX10_bitsOf_20 : decode cX10_bitsOf 20 = .ok (.iload_n 1, 1) := by decide +kernel
theorem dX10_bitsOf_21 : decode cX10_bitsOf 21 = .ok (.ireturn, 1) := by decide +kernel
theorem dX10_isWord_0 : decode cX10_isWord 0 = .ok (.iload_n 1, 1) := by decide +kernel
theorem dX10_isWord_1 : decode cX10_isWord 1 = .ok (.iconst 0, 1) := by decide +kernel
theorem dX10_isWord_2 : decode cX10_isWord 2 = .ok (.aload_n 0, 1) := by decide +kernel
theorem dX10_isWord_3 : decode cX10_isWord 3 = .ok (.getfield 139, 3) := by decide +kernel
theorem dX10_isWord_6 : decode cX10_isWord 6 = .ok (.iconst 1, 1) := by decide +kernel
theorem dX10_isWord_7 : decode cX10_isWord 7 = .ok (.isub, 1) := by decide +kernel
theorem dX10_isWord_8 : decode cX10_isWord 8 = .ok (.invokestatic 142, 3) := by decide +kernel
theorem dX10_isWord_11 : decode cX10_isWord 11 = .ok (.ireturn, 1) := by decide +kernel
theorem dX10_isPerson_0 : decode cX10_isPerson 0 = .ok (.iload_n 1, 1) := by decide +kernel
theorem dX10_isPerson_1 : decode cX10_isPerson 1 = .ok (.iconst 0, 1) := by decide +kernel
theorem dX10_isPerson_2 : decode cX10_isPerson 2 = .ok (.aload_n 0, 1) := by decide +kernel
theorem dX10_isPerson_3 : decode cX10_isPerson 3 = .ok (.getfield 146, 3) := by decide +kernel
theorem dX10_isPerson_6 : decode cX10_isPerson 6 = .ok (.iconst 1, 1) := by decide +kernel
theorem dX10_isPerson_7 : decode cX10_isPerson 7 = .ok (.isub, 1) := by decide +kernel
theorem dX10_isPerson_8 : decode cX10_isPerson 8 = .ok (.invokestatic 142, 3) := by decide +kernel
theorem dX10_isPerson_11 : decode cX10_isPerson 11 = .ok (.ireturn, 1) := by decide +kernel
theorem dX10_addWord_0 : decode cX10_addWord 0 = .ok (.aload_n 0, 1) := by decide +kernel
theorem dX10_addWord_1 : decode cX10_addWord 1 = .ok (.getfield 9, 3) := by decide +kernel
theorem dX10_addWord_4 : decode cX10_addWord 4 = .ok (.aload_n 0, 1) := by decide +kernel
theorem dX10_addWord_5 : decode cX10_addWord 5 = .ok (.getfield 139, 3) := by decide +kernel
theorem dX10_addWord_8 : decode cX10_addWord 8 = .ok (.iload_n 1, 1) := by decide +kernel
theorem dX10_addWord_9 : decode cX10_addWord 9 = .ok (.iastore, 1) := by decide +kernel
theorem dX10_addWord_10 : decode cX10_addWord 10 = .ok (.aload_n 0, 1) := by decide +kernel
theorem dX10_addWord_11 : decode cX10_addWord 11 = .ok (.getfield 15, 3) := by decide +kernel
theorem dX10_addWord_14 : decode cX10_addWord 14 = .ok (.aload_n 0, 1) := by decide +kernel
theorem dX10_addWord_15 : decode cX10_addWord 15 = .ok (.getfield 139, 3) := by decide +kernel
theorem dX10_addWord_18 : decode cX10_addWord 18 = .ok (.iload_n 2, 1) := by decide +kernel
theorem dX10_addWord_19 : decode cX10_addWord 19 = .ok (.iastore, 1) := by decide +kernel
theorem dX10_addWord_20 : decode cX10_addWord 20 = .ok (.aload_n 0, 1) := by decide +kernel
theorem dX10_addWord_21 : decode cX10_addWord 21 = .ok (.getfield 18, 3) := by decide +kernel
theorem dX10_addWord_24 : decode cX10_addWord 24 = .ok (.aload_n 0, 1) := by decide +kernel
theorem dX10_addWord_25 : decode cX10_addWord 25 = .ok (.getfield 139, 3) := by decide +kernel
theorem dX10_addWord_28 : decode cX10_addWord 28 = .ok (.iload_n 3, 1) := by decide +kernel
theorem dX10_addWord_29 : decode cX10_addWord 29 = .ok (.iastore, 1) := by decide +kernel
theorem dX10_addWord_30 : decode cX10_addWord 30 = .ok (.aload_n 0, 1) := by decide +kernel
theorem dX10_addWord_31 : decode cX10_addWord 31 = .ok (.getfield 21, 3) := by decide +kernel
theorem dX10_addWord_34 : decode cX10_addWord 34 = .ok (.aload_n 0, 1) := by decide +kernel
theorem dX10_addWord_35 : decode cX10_addWord 35 = .ok (.getfield 139, 3) := by decide +kernel
theorem dX10_addWord_38 : decode cX10_addWord 38 = .ok (.iconst 5, 1) := by decide +kernel
theorem dX10_addWord_39 : decode cX10_addWord 39 = .ok (.iastore, 1) := by decide +kernel
theorem dX10_addWord_40 : decode cX10_addWord 40 = .ok (.aload_n 0, 1) := by decide +kernel
theorem dX10_addWord_41 : decode cX10_addWord 41 = .ok (.getfield 24, 3) := by decide +kernel
theorem dX10_addWord_44 : decode cX10_addWord 44 = .ok (.aload_n 0, 1) := by decide +kernel
theorem dX10_addWord_45 : decode cX10_addWord 45 = .ok (.getfield 139, 3) := by decide +kernel
theorem dX10_addWord_48 : decode cX10_addWord 48 = .ok (.aload_n 0, 1) := by decide +kernel
theorem dX10_addWord_49 : decode cX10_addWord 49 = .ok (.getfield 139, 3) := by decide +kernel
theorem dX10_addWord_52 : decode cX10_addWord 52 = .ok (.iastore, 1) := by decide +kernel
theorem dX10_addWord_53 : decode cX10_addWord 53 = .ok (.aload_n 0, 1) := by decide +kernel
theorem dX10_addWord_54 : decode cX10_addWord 54 = .ok (.dup, 1) := by decide +kernel
theorem dX10_addWord_55 : decode cX10_addWord 55 = .ok (.getfield 139, 3) := by decide +kernel
theorem dX10_addWord_58 : decode cX10_addWord 58 = .ok (.iconst 1, 1) := by decide +kernel
theorem dX10_addWord_59 : decode cX10_addWord 59 = .ok (.iadd, 1) := by decide +kernel
theorem dX10_addWord_60 : decode cX10_addWord 60 = .ok (.putfield 139, 3) := by decide +kernel
theorem dX10_addWord_63 : decode cX10_addWord 63 = .ok (.aload_n 0, 1) := by decide +kernel
theorem dX10_addWord_64 : decode cX10_addWord 64 = .ok (.getfield 139, 3) := by decide +kernel
theorem dX10_addWord_67 : decode cX10_addWord 67 = .ok (.iconst 1, 1) := by decide +kernel
theorem dX10_addWord_68 : decode cX10_addWord 68 = .ok (.isub, 1) := by decide +kernel
theorem dX10_addWord_69 : decode cX10_addWord 69 = .ok (.ireturn, 1) := by decide +kernel
theorem dX10_word_0 : decode cX10_word 0 = .ok (.iload_n 1, 1) := by decide +kernel
theorem dX10_word_1 : decode cX10_word 1 = .ok (.iconst 1, 1) := by decide +kernel
theorem dX10_word_2 : decode cX10_word 2 = .ok (.bipush 9, 2) := by decide +kernel
theorem dX10_word_4 : decode cX10_word 4 = .ok (.invokestatic 142, 3) := by decide +kernel
theorem dX10_word_7 : decode cX10_word 7 = .ok (.ifCond .eq 13, 3) := by decide +kernel
theorem dX10_word_10 : decode cX10_word 10 = .ok (.iload_n 2, 1) := by decide +kernel
theorem dX10_word_11 : decode cX10_word 11 = .ok (.iconst 0, 1) := by decide +kernel
theorem dX10_word_12 : decode cX10_word 12 = .ok (.bipush 63, 2) := by decide +kernel
theorem dX10_word_14 : decode cX10_word 14 = .ok (.invokestatic 142, 3) := by decide +kernel
theorem dX10_word_17 : decode cX10_word 17 = .ok (.ifCond .ne 5, 3) := by decide +kernel
theorem dX10_word_20 : decode cX10_word 20 = .ok (.iconst (-1), 1) := by decide +kernel
theorem dX10_word_21 : decode cX10_word 21 = .ok (.ireturn, 1) := by decide +kernel
theorem dX10_word_22 : decode cX10_word 22 = .ok (.aload_n 0, 1) := by decide +kernel
theorem dX10_word_23 : decode cX10_word 23 = .ok (.getfield 139, 3) := by decide +kernel
theorem dX10_word_26 : decode cX10_word 26 = .ok (.bipush 12, 2) := by decide +kernel
theorem dX10_word_28 : decode cX10_word 28 = .ok (.if_icmp .ne 8, 3) := by decide +kernel
theorem dX10_word_31 : decode cX10_word 31 = .ok (.bipush (-3), 2) := by decide +kernel
theorem dX10_word_33 : decode cX10_word 33 = .ok (.goto 10, 3) := by decide +kernel
theorem dX10_word_36 : decode cX10_word 36 = .ok (.aload_n 0, 1) := by decide +kernel
theorem dX10_word_37 : decode cX10_word 37 = .ok (.iload_n 1, 1) := by decide +kernel
theorem dX10_word_38 : decode cX10_word 38 = .ok (.iload_n 2, 1) := by decide +kernel
theorem dX10_word_39 : decode cX10_word 39 = .ok (.iconst 1, 1) := by decide +kernel
theorem dX10_word_40 : decode cX10_word 40 = .ok (.invokevirtual 149, 3) := by decide +kernel
theorem dX10_word_43 : decode cX10_word 43 = .ok (.ireturn, 1) := by decide +kernel
theorem dX10_words_0 : decode cX10_words 0 = .ok (.iload_n 1, 1) := by decide +kernel
theorem dX10_words_1 : decode cX10_words 1 = .ok (.invokestatic 153, 3) := by decide +kernel
theorem dX10_words_4 : decode cX10_words 4 = .ok (.ifCond .eq 13, 3) := by decide +kernel
theorem dX10_words_7 : decode cX10_words 7 = .ok (.iload_n 3, 1) := by decide +kernel
theorem dX10_words_8 : decode cX10_words 8 = .ok (.iconst 1, 1) := by decide +kernel
theorem dX10_words_9 : decode cX10_words 9 = .ok (.bipush 12, 2) := by decide +kernel
theorem dX10_words_11 : decode cX10_words 11 = .ok (.invokestatic 142, 3) := by decide +kernel
theorem dX10_words_14 : decode cX10_words 14 = .ok (.ifCond .ne 5, 3) := by decide +kernel
theorem dX10_words_17 : decode cX10_words 17 = .ok (.iconst (-1), 1) := by decide +kernel
theorem dX10_words_18 : decode cX10_words 18 = .ok (.ireturn, 1) := by decide +kernel
theorem dX10_words_19 : decode cX10_words 19 = .ok (.aload_n 0, 1) := by decide +kernel
theorem dX10_words_20 : decode cX10_words 20 = .ok (.getfield 123, 3) := by decide +kernel
theorem dX10_words_23 : decode cX10_words 23 = .ok (.iload_n 1, 1) := by decide +kernel
theorem dX10_words_24 : decode cX10_words 24 = .ok (.iaload, 1) := by decide +kernel
theorem dX10_words_25 : decode cX10_words 25 = .ok (.iconst (-1), 1) := by decide +kernel
theorem dX10_words_26 : decode cX10_words 26 = .ok (.if_icmp .eq 17, 3) := by decide +kernel
theorem dX10_words_29 : decode cX10_words 29 = .ok (.aload_n 0, 1) := by decide +kernel
theorem dX10_words_30 : decode cX10_words 30 = .ok (.getfield 123, 3) := by decide +kernel
theorem dX10_words_33 : decode cX10_words 33 = .ok (.iload_n 1, 1) := by decide +kernel
theorem dX10_words_34 : decode cX10_words 34 = .ok (.iaload, 1) := by decide +kernel
theorem dX10_words_35 : decode cX10_words 35 = .ok (.bipush (-2), 2) := by decide +kernel
theorem dX10_words_37 : decode cX10_words 37 = .ok (.if_icmp .eq 6, 3) := by decide +kernel
theorem dX10_words_40 : decode cX10_words 40 = .ok (.bipush (-12), 2) := by decide +kernel
theorem dX10_words_42 : decode cX10_words 42 = .ok (.ireturn, 1) := by decide +kernel
theorem dX10_words_43 : decode cX10_words 43 = .ok (.aload_n 0, 1) := by decide +kernel
theorem dX10_words_44 : decode cX10_words 44 = .ok (.getfield 123, 3) := by decide +kernel
theorem dX10_words_47 : decode cX10_words 47 = .ok (.iload_n 1, 1) := by decide +kernel
theorem dX10_words_48 : decode cX10_words 48 = .ok (.iaload, 1) := by decide +kernel
theorem dX10_words_49 : decode cX10_words 49 = .ok (.iconst (-1), 1) := by decide +kernel
theorem dX10_words_50 : decode cX10_words 50 = .ok (.if_icmp .ne 5, 3) := by decide +kernel
theorem dX10_words_53 : decode cX10_words 53 = .ok (.iconst 0, 1) := by decide +kernel
theorem dX10_words_54 : decode cX10_words 54 = .ok (.ireturn, 1) := by decide +kernel
theorem dX10_words_55 : decode cX10_words 55 = .ok (.iconst 0, 1) := by decide +kernel
theorem dX10_words_56 : decode cX10_words 56 = .ok (.istore 4, 2) := by decide +kernel
theorem dX10_words_58 : decode cX10_words 58 = .ok (.iload 4, 2) := by decide +kernel
theorem dX10_words_60 : decode cX10_words 60 = .ok (.iload_n 3, 1) := by decide +kernel
theorem dX10_words_61 : decode cX10_words 61 = .ok (.if_icmp .ge 155, 3) := by decide +kernel
theorem dX10_words_64 : decode cX10_words 64 = .ok (.iload_n 2, 1) := by decide +kernel
theorem dX10_words_65 : decode cX10_words 65 = .ok (.i2l, 1) := by decide +kernel
theorem dX10_words_66 : decode cX10_words 66 = .ok (.iconst 3, 1) := by decide +kernel
theorem dX10_words_67 : decode cX10_words 67 = .ok (.iload 4, 2) := by decide +kernel
theorem dX10_words_69 : decode cX10_words 69 = .ok (.imul, 1) := by decide +kernel
theorem dX10_words_70 : decode cX10_words 70 = .ok (.i2l, 1) := by decide +kernel
theorem dX10_words_71 : decode cX10_words 71 = .ok (.ladd, 1) := by decide +kernel
theorem dX10_words_72 : decode cX10_words 72 = .ok (.lstore 5, 2) := by decide +kernel
theorem dX10_words_74 : decode cX10_words 74 = .ok (.lload 5, 2) := by decide +kernel
theorem dX10_words_76 : decode cX10_words 76 = .ok (.lconst 0, 1) := by decide +kernel
theorem dX10_words_77 : decode cX10_words 77 = .ok (.lcmp, 1) := by decide +kernel
theorem dX10_words_78 : decode cX10_words 78 = .ok (.ifCond .lt 29, 3) := by decide +kernel
theorem dX10_words_81 : decode cX10_words 81 = .ok (.lload 5, 2) := by decide +kernel
theorem dX10_words_83 : decode cX10_words 83 = .ok (.ldc2_w 157, 3) := by decide +kernel
theorem dX10_words_86 : decode cX10_words 86 = .ok (.ladd, 1) := by decide +kernel
theorem dX10_words_87 : decode cX10_words 87 = .ok (.aload_n 0, 1) := by decide +kernel
theorem dX10_words_88 : decode cX10_words 88 = .ok (.getfield 126, 3) := by decide +kernel
theorem dX10_words_91 : decode cX10_words 91 = .ok (.iload_n 1, 1) := by decide +kernel
theorem dX10_words_92 : decode cX10_words 92 = .ok (.iaload, 1) := by decide +kernel
theorem dX10_words_93 : decode cX10_words 93 = .ok (.i2l, 1) := by decide +kernel
theorem dX10_words_94 : decode cX10_words 94 = .ok (.lcmp, 1) := by decide +kernel
theorem dX10_words_95 : decode cX10_words 95 = .ok (.ifCond .ge 12, 3) := by decide +kernel
theorem dX10_words_98 : decode cX10_words 98 = .ok (.aload_n 0, 1) := by decide +kernel
theorem dX10_words_99 : decode cX10_words 99 = .ok (.getfield 139, 3) := by decide +kernel
theorem dX10_words_102 : decode cX10_words 102 = .ok (.bipush 12, 2) := by decide +kernel
theorem dX10_words_104 : decode cX10_words 104 = .ok (.if_icmp .ne 6, 3) := by decide +kernel
theorem dX10_words_107 : decode cX10_words 107 = .ok (.iload 4, 2) := by decide +kernel
theorem dX10_words_109 : decode cX10_words 109 = .ok (.ireturn, 1) := by decide +kernel
theorem dX10_words_110 : decode cX10_words 110 = .ok (.bipush 60, 2) := by decide +kernel
theorem dX10_words_112 : decode cX10_words 112 = .ok (.iload_n 1, 1) := by decide +kernel
theorem dX10_words_113 : decode cX10_words 113 = .ok (.imul, 1) := by decide +kernel
theorem dX10_words_114 : decode cX10_words 114 = .ok (.lload 5, 2) := by decide +kernel
theorem dX10_words_116 : decode cX10_words 116 = .ok (.l2i, 1) := by decide +kernel
theorem dX10_words_117 : decode cX10_words 117 = .ok (.iadd, 1) := by decide +kernel
theorem dX10_words_118 : decode cX10_words 118 = .ok (.istore 7, 2) := by decide +kernel
theorem dX10_words_120 : decode cX10_words 120 = .ok (.aload_n 0, 1) := by decide +kernel
theorem dX10_words_121 : decode cX10_words 121 = .ok (.getfield 129, 3) := by decide +kernel
theorem dX10_words_124 : decode cX10_words 124 = .ok (.iload 7, 2) := by decide +kernel
theorem dX10_words_126 : decode cX10_words 126 = .ok (.laload, 1) := by decide +kernel
theorem dX10_words_127 : decode cX10_words 127 = .ok (.l2i, 1) := by decide +kernel
theorem dX10_words_128 : decode cX10_words 128 = .ok (.iconst 1, 1) := by decide +kernel
theorem dX10_words_129 : decode cX10_words 129 = .ok (.bipush 9, 2) := by decide +kernel
theorem dX10_words_131 : decode cX10_words 131 = .ok (.invokestatic 142, 3) := by decide +kernel
theorem dX10_words_134 : decode cX10_words 134 = .ok (.ifCond .eq 40, 3) := by decide +kernel
theorem dX10_words_137 : decode cX10_words 137 = .ok (.aload_n 0, 1) := by decide +kernel
theorem dX10_words_138 : decode cX10_words 138 = .ok (.getfield 129, 3) := by decide +kernel
theorem dX10_words_141 : decode cX10_words 141 = .ok (.iload 7, 2) := by decide +kernel
theorem dX10_words_143 : decode cX10_words 143 = .ok (.iconst 1, 1) := by decide +kernel
theorem dX10_words_144 : decode cX10_words 144 = .ok (.iadd, 1) := by decide +kernel
theorem dX10_words_145 : decode cX10_words 145 = .ok (.laload, 1) := by decide +kernel
theorem dX10_words_146 : decode cX10_words 146 = .ok (.l2i, 1) := by decide +kernel
theorem dX10_words_147 : decode cX10_words 147 = .ok (.iconst 0, 1) := by decide +kernel
theorem dX10_words_148 : decode cX10_words 148 = .ok (.bipush 63, 2) := by decide +kernel
theorem dX10_words_150 : decode cX10_words 150 = .ok (.invokestatic 142, 3) := by decide +kernel
theorem dX10_words_153 : decode cX10_words 153 = .ok (.ifCond .eq 21, 3) := by decide +kernel
theorem dX10_words_156 : decode cX10_words 156 = .ok (.aload_n 0, 1) := by decide +kernel
theorem dX10_words_157 : decode cX10_words 157 = .ok (.getfield 129, 3) := by decide +kernel
theorem dX10_words_160 : decode cX10_words 160 = .ok (.iload 7, 2) := by decide +kernel
theorem dX10_words_162 : decode cX10_words 162 = .ok (.iconst 2, 1) := by decide +kernel
theorem dX10_words_163 : decode cX10_words 163 = .ok (.iadd, 1) := by decide +kernel
theorem dX10_words_164 : decode cX10_words 164 = .ok (.laload, 1) := by decide +kernel
theorem dX10_words_165 : decode cX10_words 165 = .ok (.l2i, 1) := by decide +kernel
theorem dX10_words_166 : decode cX10_words 166 = .ok (.iconst 0, 1) := by decide +kernel
theorem dX10_words_167 : decode cX10_words 167 = .ok (.iconst 2, 1) := by decide +kernel
theorem dX10_words_168 : decode cX10_words 168 = .ok (.invokestatic 142, 3) := by decide +kernel
theorem dX10_words_171 : decode cX10_words 171 = .ok (.ifCond .ne 6, 3) := by decide +kernel
theorem dX10_words_174 : decode cX10_words 174 = .ok (.iload 4, 2) := by decide +kernel
theorem dX10_words_176 : decode cX10_words 176 = .ok (.ireturn, 1) := by decide +kernel
theorem dX10_words_177 : decode cX10_words 177 = .ok (.aload_n 0, 1) := by decide +kernel
theorem dX10_words_178 : decode cX10_words 178 = .ok (.aload_n 0, 1) := by decide +kernel
theorem dX10_words_179 : decode cX10_words 179 = .ok (.getfield 129, 3) := by decide +kernel
theorem dX10_words_182 : decode cX10_words 182 = .ok (.iload 7, 2) := by decide +kernel
theorem dX10_words_184 : decode cX10_words 184 = .ok (.laload, 1) := by decide +kernel
theorem dX10_words_185 : decode cX10_words 185 = .ok (.l2i, 1) := by decide +kernel
theorem dX10_words_186 : decode cX10_words 186 = .ok (.aload_n 0, 1) := by decide +kernel
theorem dX10_words_187 : decode cX10_words 187 = .ok (.getfield 129, 3) := by decide +kernel
theorem dX10_words_190 : decode cX10_words 190 = .ok (.iload 7, 2) := by decide +kernel
theorem dX10_words_192 : decode cX10_words 192 = .ok (.iconst 1, 1) := by decide +kernel
theorem dX10_words_193 : decode cX10_words 193 = .ok (.iadd, 1) := by decide +kernel
theorem dX10_words_194 : decode cX10_words 194 = .ok (.laload, 1) := by decide +kernel
theorem dX10_words_195 : decode cX10_words 195 = .ok (.l2i, 1) := by decide +kernel
theorem dX10_words_196 : decode cX10_words 196 = .ok (.aload_n 0, 1) := by decide +kernel
theorem dX10_words_197 : decode cX10_words 197 = .ok (.getfield 129, 3) := by decide +kernel
theorem dX10_words_200 : decode cX10_words 200 = .ok (.iload 7, 2) := by decide +kernel
theorem dX10_words_202 : decode cX10_words 202 = .ok (.iconst 2, 1) := by decide +kernel
theorem dX10_words_203 : decode cX10_words 203 = .ok (.iadd, 1) := by decide +kernel
theorem dX10_words_204 : decode cX10_words 204 = .ok (.laload, 1) := by decide +kernel
theorem dX10_words_205 : decode cX10_words 205 = .ok (.l2i, 1) := by decide +kernel
theorem dX10_words_206 : decode cX10_words 206 = .ok (.invokevirtual 149, 3) := by decide +kernel
theorem dX10_words_209 : decode cX10_words 209 = .ok (.pop, 1) := by decide +kernel
theorem dX10_words_210 : decode cX10_words 210 = .ok (.iinc 4 1, 3) := by decide +kernel
theorem dX10_words_213 : decode cX10_words 213 = .ok (.goto (-155), 3) := by decide +kernel
theorem dX10_words_216 : decode cX10_words 216 = .ok (.iload_n 3, 1) := by decide +kernel
theorem dX10_words_217 : decode cX10_words 217 = .ok (.ireturn, 1) := by decide +kernel
theorem dX10_person_0 : decode cX10_person 0 = .ok (.iload_n 1, 1) := by decide +kernel
theorem dX10_person_1 : decode cX10_person 1 = .ok (.iconst 0, 1) := by decide +kernel
theorem dX10_person_2 : decode cX10_person 2 = .ok (.sipush 999, 3) := by decide +kernel
theorem dX10_person_5 : decode cX10_person 5 = .ok (.invokestatic 142, 3) := by decide +kernel
theorem dX10_person_8 : decode cX10_person 8 = .ok (.ifCond .ne 5, 3) := by decide +kernel
theorem dX10_person_11 : decode cX10_person 11 = .ok (.iconst (-1), 1) := by decide +kernel
theorem dX10_person_12 : decode cX10_person 12 = .ok (.ireturn, 1) := by decide +kernel
theorem dX10_person_13 : decode cX10_person 13 = .ok (.aload_n 0, 1) := by decide +kernel
theorem dX10_person_14 : decode cX10_person 14 = .ok (.getfield 146, 3) := by decide +kernel
theorem dX10_person_17 : decode cX10_person 17 = .ok (.bipush 6, 2) := by decide +kernel
theorem dX10_person_19 : decode cX10_person 19 = .ok (.if_icmp .ne 6, 3) := by decide +kernel
theorem dX10_person_22 : decode cX10_person 22 = .ok (.bipush (-3), 2) := by decide +kernel
theorem dX10_person_24 : decode cX10_person 24 = .ok (.ireturn, 1) := by decide +kernel
theorem dX10_person_25 : decode cX10_person 25 = .ok (.aload_n 0, 1) := by decide +kernel
theorem dX10_person_26 : decode cX10_person 26 = .ok (.getfield 27, 3) := by decide +kernel
theorem dX10_person_29 : decode cX10_person 29 = .ok (.aload_n 0, 1) := by decide +kernel
theorem dX10_person_30 : decode cX10_person 30 = .ok (.getfield 146, 3) := by decide +kernel
theorem dX10_person_33 : decode cX10_person 33 = .ok (.iload_n 1, 1) := by decide +kernel
theorem dX10_person_34 : decode cX10_person 34 = .ok (.iastore, 1) := by decide +kernel
theorem dX10_person_35 : decode cX10_person 35 = .ok (.aload_n 0, 1) := by decide +kernel
theorem dX10_person_36 : decode cX10_person 36 = .ok (.getfield 30, 3) := by decide +kernel
theorem dX10_person_39 : decode cX10_person 39 = .ok (.aload_n 0, 1) := by decide +kernel
theorem dX10_person_40 : decode cX10_person 40 = .ok (.getfield 146, 3) := by decide +kernel
theorem dX10_person_43 : decode cX10_person 43 = .ok (.iconst 0, 1) := by decide +kernel
theorem dX10_person_44 : decode cX10_person 44 = .ok (.iastore, 1) := by decide +kernel
theorem dX10_person_45 : decode cX10_person 45 = .ok (.aload_n 0, 1) := by decide +kernel
theorem dX10_person_46 : decode cX10_person 46 = .ok (.dup, 1) := by decide +kernel
theorem dX10_person_47 : decode cX10_person 47 = .ok (.getfield 146, 3) := by decide +kernel
theorem dX10_person_50 : decode cX10_person 50 = .ok (.iconst 1, 1) := by decide +kernel
theorem dX10_person_51 : decode cX10_person 51 = .ok (.iadd, 1) := by decide +kernel
theorem dX10_person_52 : decode cX10_person 52 = .ok (.putfield 146, 3) := by decide +kernel
theorem dX10_person_55 : decode cX10_person 55 = .ok (.aload_n 0, 1) := by decide +kernel
theorem dX10_person_56 : decode cX10_person 56 = .ok (.getfield 146, 3) := by decide +kernel
theorem dX10_person_59 : decode cX10_person 59 = .ok (.iconst 1, 1) := by decide +kernel
theorem dX10_person_60 : decode cX10_person 60 = .ok (.isub, 1) := by decide +kernel
theorem dX10_person_61 : decode cX10_person 61 = .ok (.ireturn, 1) := by decide +kernel
theorem dX10_valueAt_0 : decode cX10_valueAt 0 = .ok (.iload_n 1, 1) := by decide +kernel
theorem dX10_valueAt_1 : decode cX10_valueAt 1 = .ok (.tableswitch 92 0 6 #[43, 50, 57, 64, 71, 78, 85], 43) := by decide +kernel
theorem dX10_valueAt_44 : decode cX10_valueAt 44 = .ok (.aload_n 0, 1) := by decide +kernel
theorem dX10_valueAt_45 : decode cX10_valueAt 45 = .ok (.getfield 9, 3) := by decide +kernel
theorem dX10_valueAt_48 : decode cX10_valueAt 48 = .ok (.iload_n 2, 1) := by decide +kernel
theorem dX10_valueAt_49 : decode cX10_valueAt 49 = .ok (.iaload, 1) := by decide +kernel
theorem dX10_valueAt_50 : decode cX10_valueAt 50 = .ok (.ireturn, 1) := by decide +kernel
theorem dX10_valueAt_51 : decode cX10_valueAt 51 = .ok (.aload_n 0, 1) := by decide +kernel
theorem dX10_valueAt_52 : decode cX10_valueAt 52 = .ok (.getfield 15, 3) := by decide +kernel
theorem dX10_valueAt_55 : decode cX10_valueAt 55 = .ok (.iload_n 2, 1) := by decide +kernel
theorem dX10_valueAt_56 : decode cX10_valueAt 56 = .ok (.iaload, 1) := by decide +kernel
theorem dX10_valueAt_57 : decode cX10_valueAt 57 = .ok (.ireturn, 1) := by decide +kernel
theorem dX10_valueAt_58 : decode cX10_valueAt 58 = .ok (.aload_n 0, 1) := by decide +kernel
theorem dX10_valueAt_59 : decode cX10_valueAt 59 = .ok (.getfield 18, 3) := by decide +kernel
theorem dX10_valueAt_62 : decode cX10_valueAt 62 = .ok (.iload_n 2, 1) := by decide +kernel
theorem dX10_valueAt_63 : decode cX10_valueAt 63 = .ok (.iaload, 1) := by decide +kernel
theorem dX10_valueAt_64 : decode cX10_valueAt 64 = .ok (.ireturn, 1) := by decide +kernel
theorem dX10_valueAt_65 : decode cX10_valueAt 65 = .ok (.aload_n 0, 1) := by decide +kernel
theorem dX10_valueAt_66 : decode cX10_valueAt 66 = .ok (.getfield 21, 3) := by decide +kernel
theorem dX10_valueAt_69 : decode cX10_valueAt 69 = .ok (.iload_n 2, 1) := by decide +kernel
theorem dX10_valueAt_70 : decode cX10_valueAt 70 = .ok (.iaload, 1) := by decide +kernel
theorem dX10_valueAt_71 : decode cX10_valueAt 71 = .ok (.ireturn, 1) := by decide +kernel
theorem dX10_valueAt_72 : decode cX10_valueAt 72 = .ok (.aload_n 0, 1) := by decide +kernel
theorem dX10_valueAt_73 : decode cX10_valueAt 73 = .ok (.getfield 24, 3) := by decide +kernel
theorem dX10_valueAt_76 : decode cX10_valueAt 76 = .ok (.iload_n 2, 1) := by decide +kernel
theorem dX10_valueAt_77 : decode cX10_valueAt 77 = .ok (.iaload, 1) := by decide +kernel
theorem dX10_valueAt_78 : decode cX10_valueAt 78 = .ok (.ireturn, 1) := by decide +kernel
theorem dX10_valueAt_79 : decode cX10_valueAt 79 = .ok (.aload_n 0, 1) := by decide +kernel
theorem dX10_valueAt_80 : decode cX10_valueAt 80 = .ok (.getfield 27, 3) := by decide +kernel
theorem dX10_valueAt_83 : decode cX10_valueAt 83 = .ok (.iload_n 2, 1) := by decide +kernel
theorem dX10_valueAt_84 : decode cX10_valueAt 84 = .ok (.iaload, 1) := by decide +kernel
theorem dX10_valueAt_85 : decode cX10_valueAt 85 = .ok (.ireturn, 1) := by decide +kernel
theorem dX10_valueAt_86 : decode cX10_valueAt 86 = .ok (.aload_n 0, 1) := by decide +kernel
theorem dX10_valueAt_87 : decode cX10_valueAt 87 = .ok (.getfield 30, 3) := by decide +kernel
theorem dX10_valueAt_90 : decode cX10_valueAt 90 = .ok (.iload_n 2, 1) := by decide +kernel
theorem dX10_valueAt_91 : decode cX10_valueAt 91 = .ok (.iaload, 1) := by decide +kernel
theorem dX10_valueAt_92 : decode cX10_valueAt 92 = .ok (.ireturn, 1) := by decide +kernel
theorem dX10_valueAt_93 : decode cX10_valueAt 93 = .ok (.aload_n 0, 1) := by decide +kernel
theorem dX10_valueAt_94 : decode cX10_valueAt 94 = .ok (.getfield 33, 3) := by decide +kernel
theorem dX10_valueAt_97 : decode cX10_valueAt 97 = .ok (.iload_n 1, 1) := by decide +kernel
theorem dX10_valueAt_98 : decode cX10_valueAt 98 = .ok (.bipush 7, 2) := by decide +kernel
theorem dX10_valueAt_100 : decode cX10_valueAt 100 = .ok (.isub, 1) := by decide +kernel
theorem dX10_valueAt_101 : decode cX10_valueAt 101 = .ok (.iaload, 1) := by decide +kernel
theorem dX10_valueAt_102 : decode cX10_valueAt 102 = .ok (.ireturn, 1) := by decide +kernel
theorem dX10_lays_0 : decode cX10_lays 0 = .ok (.iload_n 1, 1) := by decide +kernel
theorem dX10_lays_1 : decode cX10_lays 1 = .ok (.tableswitch 113 0 6 #[43, 53, 63, 73, 83, 93, 103], 43) := by decide +kernel
theorem dX10_lays_44 : decode cX10_lays 44 = .ok (.aload_n 0, 1) := by decide +kernel
theorem dX10_lays_45 : decode cX10_lays 45 = .ok (.getfield 9, 3) := by decide +kernel
theorem dX10_lays_48 : decode cX10_lays 48 = .ok (.iload_n 2, 1) := by decide +kernel
theorem dX10_lays_49 : decode cX10_lays 49 = .ok (.iload_n 3, 1) := by decide +kernel
theorem dX10_lays_50 : decode cX10_lays 50 = .ok (.iastore, 1) := by decide +kernel
theorem dX10_lays_51 : decode cX10_lays 51 = .ok (.goto 73, 3) := by decide +kernel
theorem dX10_lays_54 : decode cX10_lays 54 = .ok (.aload_n 0, 1) := by decide +kernel
theorem dX10_lays_55 : decode cX10_lays 55 = .ok (.getfield 15, 3) := by decide +kernel
theorem dX10_lays_58 : decode cX10_lays 58 = .ok (.iload_n 2, 1) := by decide +kernel
theorem dX10_lays_59 : decode cX10_lays 59 = .ok (.iload_n 3, 1) := by decide +kernel
theorem dX10_lays_60 : decode cX10_lays 60 = .ok (.iastore, 1) := by decide +kernel
theorem dX10_lays_61 : decode cX10_lays 61 = .ok (.goto 63, 3) := by decide +kernel
theorem dX10_lays_64 : decode cX10_lays 64 = .ok (.aload_n 0, 1) := by decide +kernel
theorem dX10_lays_65 : decode cX10_lays 65 = .ok (.getfield 18, 3) := by decide +kernel
theorem dX10_lays_68 : decode cX10_lays 68 = .ok (.iload_n 2, 1) := by decide +kernel
theorem dX10_lays_69 : decode cX10_lays 69 = .ok (.iload_n 3, 1) := by decide +kernel
theorem dX10_lays_70 : decode cX10_lays 70 = .ok (.iastore, 1) := by decide +kernel
theorem dX10_lays_71 : decode cX10_lays 71 = .ok (.goto 53, 3) := by decide +kernel
theorem dX10_lays_74 : decode cX10_lays 74 = .ok (.aload_n 0, 1) := by decide +kernel
theorem dX10_lays_75 : decode cX10_lays 75 = .ok (.getfield 21, 3) := by decide +kernel
theorem dX10_lays_78 : decode cX10_lays 78 = .ok (.iload_n 2, 1) := by decide +kernel
theorem dX10_lays_79 : decode cX10_lays 79 = .ok (.iload_n 3, 1) := by decide +kernel
theorem dX10_lays_80 : decode cX10_lays 80 = .ok (.iastore, 1) := by decide +kernel
theorem dX10_lays_81 : decode cX10_lays 81 = .ok (.goto 43, 3) := by decide +kernel
theorem dX10_lays_84 : decode cX10_lays 84 = .ok (.aload_n 0, 1) := by decide +kernel
theorem dX10_lays_85 : decode cX10_lays 85 = .ok (.getfield 24, 3) := by decide +kernel
theorem dX10_lays_88 : decode cX10_lays 88 = .ok (.iload_n 2, 1) := by decide +kernel
theorem dX10_lays_89 : decode cX10_lays 89 = .ok (.iload_n 3, 1) := by decide +kernel
theorem dX10_lays_90 : decode cX10_lays 90 = .ok (.iastore, 1) := by decide +kernel
theorem dX10_lays_91 : decode cX10_lays 91 = .ok (.goto 33, 3) := by decide +kernel
theorem dX10_lays_94 : decode cX10_lays 94 = .ok (.aload_n 0, 1) := by decide +kernel
theorem dX10_lays_95 : decode cX10_lays 95 = .ok (.getfield 27, 3) := by decide +kernel
theorem dX10_lays_98 : decode cX10_lays 98 = .ok (.iload_n 2, 1) := by decide +kernel
theorem dX10_lays_99 : decode cX10_lays 99 = .ok (.iload_n 3, 1) := by decide +kernel
theorem dX10_lays_100 : decode cX10_lays 100 = .ok (.iastore, 1) := by decide +kernel
theorem dX10_lays_101 : decode cX10_lays 101 = .ok (.goto 23, 3) := by decide +kernel
theorem dX10_lays_104 : decode cX10_lays 104 = .ok (.aload_n 0, 1) := by decide +kernel
theorem dX10_lays_105 : decode cX10_lays 105 = .ok (.getfield 30, 3) := by decide +kernel
theorem dX10_lays_108 : decode cX10_lays 108 = .ok (.iload_n 2, 1) := by decide +kernel
theorem dX10_lays_109 : decode cX10_lays 109 = .ok (.iload_n 3, 1) := by decide +kernel
theorem dX10_lays_110 : decode cX10_lays 110 = .ok (.iastore, 1) := by decide +kernel
theorem dX10_lays_111 : decode cX10_lays 111 = .ok (.goto 13, 3) := by decide +kernel
theorem dX10_lays_114 : decode cX10_lays 114 = .ok (.aload_n 0, 1) := by decide +kernel
theorem dX10_lays_115 : decode cX10_lays 115 = .ok (.getfield 33, 3) := by decide +kernel
theorem dX10_lays_118 : decode cX10_lays 118 = .ok (.iload_n 1, 1) := by decide +kernel
theorem dX10_lays_119 : decode cX10_lays 119 = .ok (.bipush 7, 2) := by decide +kernel
theorem dX10_lays_121 : decode cX10_lays 121 = .ok (.isub, 1) := by decide +kernel
theorem dX10_lays_122 : decode cX10_lays 122 = .ok (.iload_n 3, 1) := by decide +kernel
theorem dX10_lays_123 : decode cX10_lays 123 = .ok (.iastore, 1) := by decide +kernel
theorem dX10_lays_124 : decode cX10_lays 124 = .ok (.return_, 1) := by decide +kernel
theorem dX10_changes_0 : decode cX10_changes 0 = .ok (.aload_n 0, 1) := by decide +kernel
theorem dX10_changes_1 : decode cX10_changes 1 = .ok (.iload_n 1, 1) := by decide +kernel
theorem dX10_changes_2 : decode cX10_changes 2 = .ok (.iload_n 2, 1) := by decide +kernel
theorem dX10_changes_3 : decode cX10_changes 3 = .ok (.invokevirtual 159, 3) := by decide +kernel
theorem dX10_changes_6 : decode cX10_changes 6 = .ok (.istore 4, 2) := by decide +kernel
theorem dX10_changes_8 : decode cX10_changes 8 = .ok (.iload 4, 2) := by decide +kernel
theorem dX10_changes_10 : decode cX10_changes 10 = .ok (.iload_n 3, 1) := by decide +kernel
theorem dX10_changes_11 : decode cX10_changes 11 = .ok (.if_icmp .ne 6, 3) := by decide +kernel
theorem dX10_changes_14 : decode cX10_changes 14 = .ok (.iload 4, 2) := by decide +kernel
theorem dX10_changes_16 : decode cX10_changes 16 = .ok (.ireturn, 1) := by decide +kernel
theorem dX10_changes_17 : decode cX10_changes 17 = .ok (.aload_n 0, 1) := by decide +kernel
theorem dX10_changes_18 : decode cX10_changes 18 = .ok (.iconst 0, 1) := by decide +kernel
theorem dX10_changes_19 : decode cX10_changes 19 = .ok (.putfield 163, 3) := by decide +kernel
theorem dX10_changes_22 : decode cX10_changes 22 = .ok (.aload_n 0, 1) := by decide +kernel
theorem dX10_changes_23 : decode cX10_changes 23 = .ok (.getfield 166, 3) := by decide +kernel
theorem dX10_changes_26 : decode cX10_changes 26 = .ok (.bipush 40, 2) := by decide +kernel
theorem dX10_changes_28 : decode cX10_changes 28 = .ok (.if_icmp .ne 93, 3) := by decide +kernel
theorem dX10_changes_31 : decode cX10_changes 31 = .ok (.iconst 1, 1) := by decide +kernel
theorem dX10_changes_32 : decode cX10_changes 32 = .ok (.istore 5, 2) := by decide +kernel
theorem dX10_changes_34 : decode cX10_changes 34 = .ok (.iload 5, 2) := by decide +kernel
theorem dX10_changes_36 : decode cX10_changes 36 = .ok (.bipush 40, 2) := by decide +kernel
theorem dX10_changes_38 : decode cX10_changes 38 = .ok (.if_icmp .ge 73, 3) := by decide +kernel
theorem dX10_changes_41 : decode cX10_changes 41 = .ok (.aload_n 0, 1) := by decide +kernel
theorem dX10_changes_42 : decode cX10_changes 42 = .ok (.getfield 36, 3) := by decide +kernel
theorem dX10_changes_45 : decode cX10_changes 45 = .ok (.iload 5, 2) := by decide +kernel
theorem dX10_changes_47 : decode cX10_changes 47 = .ok (.iconst 1, 1) := by decide +kernel
theorem dX10_changes_48 : decode cX10_changes 48 = .ok (.isub, 1) := by decide +kernel
theorem dX10_changes_49 : decode cX10_changes 49 = .ok (.aload_n 0, 1) := by decide +kernel
theorem dX10_changes_50 : decode cX10_changes 50 = .ok (.getfield 36, 3) := by decide +kernel
theorem dX10_changes_53 : decode cX10_changes 53 = .ok (.iload 5, 2) := by decide +kernel
theorem dX10_changes_55 : decode cX10_changes 55 = .ok (.iaload, 1) := by decide +kernel
theorem dX10_changes_56 : decode cX10_changes 56 = .ok (.iastore, 1) := by decide +kernel
theorem dX10_changes_57 : decode cX10_changes 57 = .ok (.aload_n 0, 1) := by decide +kernel
theorem dX10_changes_58 : decode cX10_changes 58 = .ok (.getfield 39, 3) := by decide +kernel
theorem dX10_changes_61 : decode cX10_changes 61 = .ok (.iload 5, 2) := by decide +kernel
theorem dX10_changes_63 : decode cX10_changes 63 = .ok (.iconst 1, 1) := by decide +kernel
theorem dX10_changes_64 : decode cX10_changes 64 = .ok (.isub, 1) := by decide +kernel
theorem dX10_changes_65 : decode cX10_changes 65 = .ok (.aload_n 0, 1) := by decide +kernel
theorem dX10_changes_66 : decode cX10_changes 66 = .ok (.getfield 39, 3) := by decide +kernel
theorem dX10_changes_69 : decode cX10_changes 69 = .ok (.iload 5, 2) := by decide +kernel
theorem dX10_changes_71 : decode cX10_changes 71 = .ok (.iaload, 1) := by decide +kernel
theorem dX10_changes_72 : decode cX10_changes 72 = .ok (.iastore, 1) := by decide +kernel
theorem dX10_changes_73 : decode cX10_changes 73 = .ok (.aload_n 0, 1) := by decide +kernel
theorem dX10_changes_74 : decode cX10_changes 74 = .ok (.getfield 42, 3) := by decide +kernel
theorem dX10_changes_77 : decode cX10_changes 77 = .ok (.iload 5, 2) := by decide +kernel
theorem dX10_changes_79 : decode cX10_changes 79 = .ok (.iconst 1, 1) := by decide +kernel
theorem dX10_changes_80 : decode cX10_changes 80 = .ok (.isub, 1) := by decide +kernel
theorem dX10_changes_81 : decode cX10_changes 81 = .ok (.aload_n 0, 1) := by decide +kernel
theorem dX10_changes_82 : decode cX10_changes 82 = .ok (.getfield 42, 3) := by decide +kernel
theorem dX10_changes_85 : decode cX10_changes 85 = .ok (.iload 5, 2) := by decide +kernel
theorem dX10_changes_87 : decode cX10_changes 87 = .ok (.iaload, 1) := by decide +kernel
theorem dX10_changes_88 : decode cX10_changes 88 = .ok (.iastore, 1) := by decide +kernel
theorem dX10_changes_89 : decode cX10_changes 89 = .ok (.aload_n 0, 1) := by decide +kernel
theorem dX10_changes_90 : decode cX10_changes 90 = .ok (.getfield 45, 3) := by decide +kernel
theorem dX10_changes_93 : decode cX10_changes 93 = .ok (.iload 5, 2) := by decide +kernel
theorem dX10_changes_95 : decode cX10_changes 95 = .ok (.iconst 1, 1) := by decide +kernel
theorem dX10_changes_96 : decode cX10_changes 96 = .ok (.isub, 1) := by decide +kernel
theorem dX10_changes_97 : decode cX10_changes 97 = .ok (.aload_n 0, 1) := by decide +kernel
theorem dX10_changes_98 : decode cX10_changes 98 = .ok (.getfield 45, 3) := by decide +kernel
theorem dX10_changes_101 : decode cX10_changes 101 = .ok (.iload 5, 2) := by decide +kernel
theorem dX10_changes_103 : decode cX10_changes 103 = .ok (.iaload, 1) := by decide +kernel
theorem dX10_changes_104 : decode cX10_changes 104 = .ok (.iastore, 1) := by decide +kernel
theorem dX10_changes_105 : decode cX10_changes 105 = .ok (.iinc 5 1, 3) := by decide +kernel
theorem dX10_changes_108 : decode cX10_changes 108 = .ok (.goto (-74), 3) := by decide +kernel
theorem dX10_changes_111 : decode cX10_changes 111 = .ok (.aload_n 0, 1) := by decide +kernel
theorem dX10_changes_112 : decode cX10_changes 112 = .ok (.dup, 1) := by decide +kernel
theorem dX10_changes_113 : decode cX10_changes 113 = .ok (.getfield 166, 3) := by decide +kernel
theorem dX10_changes_116 : decode cX10_changes 116 = .ok (.iconst 1, 1) := by decide +kernel
theorem dX10_changes_117 : decode cX10_changes 117 = .ok (.isub, 1) := by decide +kernel
theorem dX10_changes_118 : decode cX10_changes 118 = .ok (.putfield 166, 3) := by decide +kernel
theorem dX10_changes_121 : decode cX10_changes 121 = .ok (.aload_n 0, 1) := by decide +kernel
theorem dX10_changes_122 : decode cX10_changes 122 = .ok (.getfield 36, 3) := by decide +kernel
theorem dX10_changes_125 : decode cX10_changes 125 = .ok (.aload_n 0, 1) := by decide +kernel
theorem dX10_changes_126 : decode cX10_changes 126 = .ok (.getfield 166, 3) := by decide +kernel
theorem dX10_changes_129 : decode cX10_changes 129 = .ok (.iload_n 1, 1) := by decide +kernel
theorem dX10_changes_130 : decode cX10_changes 130 = .ok (.iastore, 1) := by decide +kernel
theorem dX10_changes_131 : decode cX10_changes 131 = .ok (.aload_n 0, 1) := by decide +kernel
theorem dX10_changes_132 : decode cX10_changes 132 = .ok (.getfield 39, 3) := by decide +kernel
theorem dX10_changes_135 : decode cX10_changes 135 = .ok (.aload_n 0, 1) := by decide +kernel
theorem dX10_changes_136 : decode cX10_changes 136 = .ok (.getfield 166, 3) := by decide +kernel
theorem dX10_changes_139 : decode cX10_changes 139 = .ok (.iload_n 2, 1) := by decide +kernel
theorem dX10_changes_140 : decode cX10_changes 140 = .ok (.iastore, 1) := by decide +kernel
theorem dX10_changes_141 : decode cX10_changes 141 = .ok (.aload_n 0, 1) := by decide +kernel
theorem dX10_changes_142 : decode cX10_changes 142 = .ok (.getfield 42, 3) := by decide +kernel
theorem dX10_changes_145 : decode cX10_changes 145 = .ok (.aload_n 0, 1) := by decide +kernel
theorem dX10_changes_146 : decode cX10_changes 146 = .ok (.getfield 166, 3) := by decide +kernel
theorem dX10_changes_149 : decode cX10_changes 149 = .ok (.iload 4, 2) := by decide +kernel
theorem dX10_changes_151 : decode cX10_changes 151 = .ok (.iastore, 1) := by decide +kernel
theorem dX10_changes_152 : decode cX10_changes 152 = .ok (.aload_n 0, 1) := by decide +kernel
theorem dX10_changes_153 : decode cX10_changes 153 = .ok (.getfield 45, 3) := by decide +kernel
theorem dX10_changes_156 : decode cX10_changes 156 = .ok (.aload_n 0, 1) := by decide +kernel
theorem dX10_changes_157 : decode cX10_changes 157 = .ok (.getfield 166, 3) := by decide +kernel
theorem dX10_changes_160 : decode cX10_changes 160 = .ok (.iload_n 3, 1) := by decide +kernel
theorem dX10_changes_161 : decode cX10_changes 161 = .ok (.iastore, 1) := by decide +kernel
theorem dX10_changes_162 : decode cX10_changes 162 = .ok (.aload_n 0, 1) := by decide +kernel
theorem dX10_changes_163 : decode cX10_changes 163 = .ok (.dup, 1) := by decide +kernel
theorem dX10_changes_164 : decode cX10_changes 164 = .ok (.getfield 166, 3) := by decide +kernel
theorem dX10_changes_167 : decode cX10_changes 167 = .ok (.iconst 1, 1) := by decide +kernel
theorem dX10_changes_168 : decode cX10_changes 168 = .ok (.iadd, 1) := by decide +kernel
theorem dX10_changes_169 : decode cX10_changes 169 = .ok (.putfield 166, 3) := by decide +kernel
theorem dX10_changes_172 : decode cX10_changes 172 = .ok (.aload_n 0, 1) := by decide +kernel
theorem dX10_changes_173 : decode cX10_changes 173 = .ok (.iload_n 1, 1) := by decide +kernel
theorem dX10_changes_174 : decode cX10_changes 174 = .ok (.iload_n 2, 1) := by decide +kernel
theorem dX10_changes_175 : decode cX10_changes 175 = .ok (.iload_n 3, 1) := by decide +kernel
theorem dX10_changes_176 : decode cX10_changes 176 = .ok (.invokevirtual 169, 3) := by decide +kernel
theorem dX10_changes_179 : decode cX10_changes 179 = .ok (.iload 4, 2) := by decide +kernel
theorem dX10_changes_181 : decode cX10_changes 181 = .ok (.ireturn, 1) := by decide +kernel
theorem dX10_undo_0 : decode cX10_undo 0 = .ok (.aload_n 0, 1) := by decide +kernel
theorem dX10_undo_1 : decode cX10_undo 1 = .ok (.getfield 166, 3) := by decide +kernel
theorem dX10_undo_4 : decode cX10_undo 4 = .ok (.ifCond .ne 6, 3) := by decide +kernel
theorem dX10_undo_7 : decode cX10_undo 7 = .ok (.bipush (-5), 2) := by decide +kernel
theorem dX10_undo_9 : decode cX10_undo 9 = .ok (.ireturn, 1) := by decide +kernel
theorem dX10_undo_10 : decode cX10_undo 10 = .ok (.aload_n 0, 1) := by decide +kernel
theorem dX10_undo_11 : decode cX10_undo 11 = .ok (.dup, 1) := by decide +kernel
theorem dX10_undo_12 : decode cX10_undo 12 = .ok (.getfield 166, 3) := by decide +kernel
theorem dX10_undo_15 : decode cX10_undo 15 = .ok (.iconst 1, 1) := by decide +kernel
theorem dX10_undo_16 : decode cX10_undo 16 = .ok (.isub, 1) := by decide +kernel
theorem dX10_undo_17 : decode cX10_undo 17 = .ok (.putfield 166, 3) := by decide +kernel
theorem dX10_undo_20 : decode cX10_undo 20 = .ok (.aload_n 0, 1) := by decide +kernel
theorem dX10_undo_21 : decode cX10_undo 21 = .ok (.dup, 1) := by decide +kernel
theorem dX10_undo_22 : decode cX10_undo 22 = .ok (.getfield 163, 3) := by decide +kernel
theorem dX10_undo_25 : decode cX10_undo 25 = .ok (.iconst 1, 1) := by decide +kernel
theorem dX10_undo_26 : decode cX10_undo 26 = .ok (.iadd, 1) := by decide +kernel
theorem dX10_undo_27 : decode cX10_undo 27 = .ok (.putfield 163, 3) := by decide +kernel
theorem dX10_undo_30 : decode cX10_undo 30 = .ok (.aload_n 0, 1) := by decide +kernel
theorem dX10_undo_31 : decode cX10_undo 31 = .ok (.aload_n 0, 1) := by decide +kernel
theorem dX10_undo_32 : decode cX10_undo 32 = .ok (.getfield 36, 3) := by decide +kernel
theorem dX10_undo_35 : decode cX10_undo 35 = .ok (.aload_n 0, 1) := by decide +kernel
theorem dX10_undo_36 : decode cX10_undo 36 = .ok (.getfield 166, 3) := by decide +kernel
theorem dX10_undo_39 : decode cX10_undo 39 = .ok (.iaload, 1) := by decide +kernel
theorem dX10_undo_40 : decode cX10_undo 40 = .ok (.aload_n 0, 1) := by decide +kernel
theorem dX10_undo_41 : decode cX10_undo 41 = .ok (.getfield 39, 3) := by decide +kernel
theorem dX10_undo_44 : decode cX10_undo 44 = .ok (.aload_n 0, 1) := by decide +kernel
theorem dX10_undo_45 : decode cX10_undo 45 = .ok (.getfield 166, 3) := by decide +kernel
theorem dX10_undo_48 : decode cX10_undo 48 = .ok (.iaload, 1) := by decide +kernel
theorem dX10_undo_49 : decode cX10_undo 49 = .ok (.aload_n 0, 1) := by decide +kernel
theorem dX10_undo_50 : decode cX10_undo 50 = .ok (.getfield 42, 3) := by decide +kernel
theorem dX10_undo_53 : decode cX10_undo 53 = .ok (.aload_n 0, 1) := by decide +kernel
theorem dX10_undo_54 : decode cX10_undo 54 = .ok (.getfield 166, 3) := by decide +kernel
theorem dX10_undo_57 : decode cX10_undo 57 = .ok (.iaload, 1) := by decide +kernel
theorem dX10_undo_58 : decode cX10_undo 58 = .ok (.invokevirtual 169, 3) := by decide +kernel
theorem dX10_undo_61 : decode cX10_undo 61 = .ok (.aload_n 0, 1) := by decide +kernel
theorem dX10_undo_62 : decode cX10_undo 62 = .ok (.getfield 166, 3) := by decide +kernel
theorem dX10_undo_65 : decode cX10_undo 65 = .ok (.ireturn, 1) := by decide +kernel
theorem dX10_redo_0 : decode cX10_redo 0 = .ok (.aload_n 0, 1) := by decide +kernel
theorem dX10_redo_1 : decode cX10_redo 1 = .ok (.getfield 163, 3) := by decide +kernel
theorem dX10_redo_4 : decode cX10_redo 4 = .ok (.ifCond .ne 6, 3) := by decide +kernel
theorem dX10_redo_7 : decode cX10_redo 7 = .ok (.bipush (-5), 2) := by decide +kernel
theorem dX10_redo_9 : decode cX10_redo 9 = .ok (.ireturn, 1) := by decide +kernel
theorem dX10_redo_10 : decode cX10_redo 10 = .ok (.aload_n 0, 1) := by decide +kernel
theorem dX10_redo_11 : decode cX10_redo 11 = .ok (.aload_n 0, 1) := by decide +kernel
theorem dX10_redo_12 : decode cX10_redo 12 = .ok (.getfield 36, 3) := by decide +kernel
theorem dX10_redo_15 : decode cX10_redo 15 = .ok (.aload_n 0, 1) := by decide +kernel
theorem dX10_redo_16 : decode cX10_redo 16 = .ok (.getfield 166, 3) := by decide +kernel
theorem dX10_redo_19 : decode cX10_redo 19 = .ok (.iaload, 1) := by decide +kernel
theorem dX10_redo_20 : decode cX10_redo 20 = .ok (.aload_n 0, 1) := by decide +kernel
theorem dX10_redo_21 : decode cX10_redo 21 = .ok (.getfield 39, 3) := by decide +kernel
theorem dX10_redo_24 : decode cX10_redo 24 = .ok (.aload_n 0, 1) := by decide +kernel
theorem dX10_redo_25 : decode cX10_redo 25 = .ok (.getfield 166, 3) := by decide +kernel
theorem dX10_redo_28 : decode cX10_redo 28 = .ok (.iaload, 1) := by decide +kernel
theorem dX10_redo_29 : decode cX10_redo 29 = .ok (.aload_n 0, 1) := by decide +kernel
theorem dX10_redo_30 : decode cX10_redo 30 = .ok (.getfield 45, 3) := by decide +kernel
theorem dX10_redo_33 : decode cX10_redo 33 = .ok (.aload_n 0, 1) := by decide +kernel
theorem dX10_redo_34 : decode cX10_redo 34 = .ok (.getfield 166, 3) := by decide +kernel
theorem dX10_redo_37 : decode cX10_redo 37 = .ok (.iaload, 1) := by decide +kernel
theorem dX10_redo_38 : decode cX10_redo 38 = .ok (.invokevirtual 169, 3) := by decide +kernel
theorem dX10_redo_41 : decode cX10_redo 41 = .ok (.aload_n 0, 1) := by decide +kernel
theorem dX10_redo_42 : decode cX10_redo 42 = .ok (.dup, 1) := by decide +kernel
theorem dX10_redo_43 : decode cX10_redo 43 = .ok (.getfield 166, 3) := by decide +kernel
theorem dX10_redo_46 : decode cX10_redo 46 = .ok (.iconst 1, 1) := by decide +kernel
theorem dX10_redo_47 : decode cX10_redo 47 = .ok (.iadd, 1) := by decide +kernel
theorem dX10_redo_48 : decode cX10_redo 48 = .ok (.putfield 166, 3) := by decide +kernel
theorem dX10_redo_51 : decode cX10_redo 51 = .ok (.aload_n 0, 1) := by decide +kernel
theorem dX10_redo_52 : decode cX10_redo 52 = .ok (.dup, 1) := by decide +kernel
theorem dX10_redo_53 : decode cX10_redo 53 = .ok (.getfield 163, 3) := by decide +kernel
theorem dX10_redo_56 : decode cX10_redo 56 = .ok (.iconst 1, 1) := by decide +kernel
theorem dX10_redo_57 : decode cX10_redo 57 = .ok (.isub, 1) := by decide +kernel
theorem dX10_redo_58 : decode cX10_redo 58 = .ok (.putfield 163, 3) := by decide +kernel
theorem dX10_redo_61 : decode cX10_redo 61 = .ok (.aload_n 0, 1) := by decide +kernel
theorem dX10_redo_62 : decode cX10_redo 62 = .ok (.getfield 163, 3) := by decide +kernel
theorem dX10_redo_65 : decode cX10_redo 65 = .ok (.ireturn, 1) := by decide +kernel
theorem dX10_isOne_0 : decode cX10_isOne 0 = .ok (.iload_n 2, 1) := by decide +kernel
theorem dX10_isOne_1 : decode cX10_isOne 1 = .ok (.iconst 0, 1) := by decide +kernel
theorem dX10_isOne_2 : decode cX10_isOne 2 = .ok (.iconst 4, 1) := by decide +kernel
theorem dX10_isOne_3 : decode cX10_isOne 3 = .ok (.invokestatic 142, 3) := by decide +kernel
theorem dX10_isOne_6 : decode cX10_isOne 6 = .ok (.ifCond .eq 11, 3) := by decide +kernel
theorem dX10_isOne_9 : decode cX10_isOne 9 = .ok (.aload_n 0, 1) := by decide +kernel
theorem dX10_isOne_10 : decode cX10_isOne 10 = .ok (.iload_n 1, 1) := by decide +kernel
theorem dX10_isOne_11 : decode cX10_isOne 11 = .ok (.invokevirtual 173, 3) := by decide +kernel
theorem dX10_isOne_14 : decode cX10_isOne 14 = .ok (.goto 41, 3) := by decide +kernel
theorem dX10_isOne_17 : decode cX10_isOne 17 = .ok (.iload_n 2, 1) := by decide +kernel
theorem dX10_isOne_18 : decode cX10_isOne 18 = .ok (.iconst 5, 1) := by decide +kernel
theorem dX10_isOne_19 : decode cX10_isOne 19 = .ok (.bipush 6, 2) := by decide +kernel
theorem dX10_isOne_21 : decode cX10_isOne 21 = .ok (.invokestatic 142, 3) := by decide +kernel
theorem dX10_isOne_24 : decode cX10_isOne 24 = .ok (.ifCond .eq 11, 3) := by decide +kernel
theorem dX10_isOne_27 : decode cX10_isOne 27 = .ok (.aload_n 0, 1) := by decide +kernel
theorem dX10_isOne_28 : decode cX10_isOne 28 = .ok (.iload_n 1, 1) := by decide +kernel
theorem dX10_isOne_29 : decode cX10_isOne 29 = .ok (.invokevirtual 176, 3) := by decide +kernel
theorem dX10_isOne_32 : decode cX10_isOne 32 = .ok (.goto 23, 3) := by decide +kernel
theorem dX10_isOne_35 : decode cX10_isOne 35 = .ok (.iload_n 2, 1) := by decide +kernel
theorem dX10_isOne_36 : decode cX10_isOne 36 = .ok (.bipush 7, 2) := by decide +kernel
theorem dX10_isOne_38 : decode cX10_isOne 38 = .ok (.bipush 9, 2) := by decide +kernel
theorem dX10_isOne_40 : decode cX10_isOne 40 = .ok (.invokestatic 142, 3) := by decide +kernel
theorem dX10_isOne_43 : decode cX10_isOne 43 = .ok (.ifCond .eq 11, 3) := by decide +kernel
theorem dX10_isOne_46 : decode cX10_isOne 46 = .ok (.iload_n 1, 1) := by decide +kernel
theorem dX10_isOne_47 : decode cX10_isOne 47 = .ok (.ifCond .ne 7, 3) := by decide +kernel
theorem dX10_isOne_50 : decode cX10_isOne 50 = .ok (.iconst 1, 1) := by decide +kernel
theorem dX10_isOne_51 : decode cX10_isOne 51 = .ok (.goto 4, 3) := by decide +kernel
theorem dX10_isOne_54 : decode cX10_isOne 54 = .ok (.iconst 0, 1) := by decide +kernel
theorem dX10_isOne_55 : decode cX10_isOne 55 = .ok (.ireturn, 1) := by decide +kernel
theorem dX10_mayHave_0 : decode cX10_mayHave 0 = .ok (.iload_n 1, 1) := by decide +kernel
theorem dX10_mayHave_1 : decode cX10_mayHave 1 = .ok (.tableswitch 120 0 8 #[51, 59, 67, 74, 82, 88, 97, 105, 112], 51) := by decide +kernel
theorem dX10_mayHave_52 : decode cX10_mayHave 52 = .ok (.iload_n 2, 1) := by decide +kernel
theorem dX10_mayHave_53 : decode cX10_mayHave 53 = .ok (.iconst 1, 1) := by decide +kernel
theorem dX10_mayHave_54 : decode cX10_mayHave 54 = .ok (.bipush 9, 2) := by decide +kernel
theorem dX10_mayHave_56 : decode cX10_mayHave 56 = .ok (.invokestatic 142, 3) := by decide +kernel
theorem dX10_mayHave_59 : decode cX10_mayHave 59 = .ok (.ireturn, 1) := by decide +kernel
theorem dX10_mayHave_60 : decode cX10_mayHave 60 = .ok (.iload_n 2, 1) := by decide +kernel
theorem dX10_mayHave_61 : decode cX10_mayHave 61 = .ok (.iconst 0, 1) := by decide +kernel
theorem dX10_mayHave_62 : decode cX10_mayHave 62 = .ok (.bipush 63, 2) := by decide +kernel
theorem dX10_mayHave_64 : decode cX10_mayHave 64 = .ok (.invokestatic 142, 3) := by decide +kernel
theorem dX10_mayHave_67 : decode cX10_mayHave 67 = .ok (.ireturn, 1) := by decide +kernel
theorem dX10_mayHave_68 : decode cX10_mayHave 68 = .ok (.iload_n 2, 1) := by decide +kernel
theorem dX10_mayHave_69 : decode cX10_mayHave 69 = .ok (.iconst 0, 1) := by decide +kernel
theorem dX10_mayHave_70 : decode cX10_mayHave 70 = .ok (.iconst 2, 1) := by decide +kernel
theorem dX10_mayHave_71 : decode cX10_mayHave 71 = .ok (.invokestatic 142, 3) := by decide +kernel
theorem dX10_mayHave_74 : decode cX10_mayHave 74 = .ok (.ireturn, 1) := by decide +kernel
theorem dX10_mayHave_75 : decode cX10_mayHave 75 = .ok (.iload_n 2, 1) := by decide +kernel
theorem dX10_mayHave_76 : decode cX10_mayHave 76 = .ok (.iconst 1, 1) := by decide +kernel
theorem dX10_mayHave_77 : decode cX10_mayHave 77 = .ok (.bipush 9, 2) := by decide +kernel
theorem dX10_mayHave_79 : decode cX10_mayHave 79 = .ok (.invokestatic 142, 3) := by decide +kernel
theorem dX10_mayHave_82 : decode cX10_mayHave 82 = .ok (.ireturn, 1) := by decide +kernel
theorem dX10_mayHave_83 : decode cX10_mayHave 83 = .ok (.aload_n 0, 1) := by decide +kernel
theorem dX10_mayHave_84 : decode cX10_mayHave 84 = .ok (.iload_n 2, 1) := by decide +kernel
theorem dX10_mayHave_85 : decode cX10_mayHave 85 = .ok (.invokevirtual 173, 3) := by decide +kernel
theorem dX10_mayHave_88 : decode cX10_mayHave 88 = .ok (.ireturn, 1) := by decide +kernel
theorem dX10_mayHave_89 : decode cX10_mayHave 89 = .ok (.iload_n 2, 1) := by decide +kernel
theorem dX10_mayHave_90 : decode cX10_mayHave 90 = .ok (.iconst 0, 1) := by decide +kernel
theorem dX10_mayHave_91 : decode cX10_mayHave 91 = .ok (.sipush 999, 3) := by decide +kernel
theorem dX10_mayHave_94 : decode cX10_mayHave 94 = .ok (.invokestatic 142, 3) := by decide +kernel
theorem dX10_mayHave_97 : decode cX10_mayHave 97 = .ok (.ireturn, 1) := by decide +kernel
theorem dX10_mayHave_98 : decode cX10_mayHave 98 = .ok (.iload_n 2, 1) := by decide +kernel
theorem dX10_mayHave_99 : decode cX10_mayHave 99 = .ok (.iconst 0, 1) := by decide +kernel
theorem dX10_mayHave_100 : decode cX10_mayHave 100 = .ok (.bipush 63, 2) := by decide +kernel
theorem dX10_mayHave_102 : decode cX10_mayHave 102 = .ok (.invokestatic 142, 3) := by decide +kernel
theorem dX10_mayHave_105 : decode cX10_mayHave 105 = .ok (.ireturn, 1) := by decide +kernel
theorem dX10_mayHave_106 : decode cX10_mayHave 106 = .ok (.iload_n 2, 1) := by decide +kernel
theorem dX10_mayHave_107 : decode cX10_mayHave 107 = .ok (.iconst 0, 1) := by decide +kernel
theorem dX10_mayHave_108 : decode cX10_mayHave 108 = .ok (.iconst 1, 1) := by decide +kernel
theorem dX10_mayHave_109 : decode cX10_mayHave 109 = .ok (.invokestatic 142, 3) := by decide +kernel
theorem dX10_mayHave_112 : decode cX10_mayHave 112 = .ok (.ireturn, 1) := by decide +kernel
theorem dX10_mayHave_113 : decode cX10_mayHave 113 = .ok (.iload_n 2, 1) := by decide +kernel
theorem dX10_mayHave_114 : decode cX10_mayHave 114 = .ok (.iconst 0, 1) := by decide +kernel
theorem dX10_mayHave_115 : decode cX10_mayHave 115 = .ok (.bipush 12, 2) := by decide +kernel
theorem dX10_mayHave_117 : decode cX10_mayHave 117 = .ok (.invokestatic 142, 3) := by decide +kernel
theorem dX10_mayHave_120 : decode cX10_mayHave 120 = .ok (.ireturn, 1) := by decide +kernel
theorem dX10_mayHave_121 : decode cX10_mayHave 121 = .ok (.iload_n 2, 1) := by decide +kernel
theorem dX10_mayHave_122 : decode cX10_mayHave 122 = .ok (.iconst 1, 1) := by decide +kernel
theorem dX10_mayHave_123 : decode cX10_mayHave 123 = .ok (.bipush 20, 2) := by decide +kernel
theorem dX10_mayHave_125 : decode cX10_mayHave 125 = .ok (.invokestatic 142, 3) := by decide +kernel
theorem dX10_mayHave_128 : decode cX10_mayHave 128 = .ok (.ireturn, 1) := by decide +kernel
theorem dX10_mend_0 : decode cX10_mend 0 = .ok (.aload_n 0, 1) := by decide +kernel
theorem dX10_mend_1 : decode cX10_mend 1 = .ok (.iload_n 1, 1) := by decide +kernel
theorem dX10_mend_2 : decode cX10_mend 2 = .ok (.iload_n 2, 1) := by decide +kernel
theorem dX10_mend_3 : decode cX10_mend 3 = .ok (.invokevirtual 179, 3) := by decide +kernel
theorem dX10_mend_6 : decode cX10_mend 6 = .ok (.ifCond .eq 22, 3) := by decide +kernel
theorem dX10_mend_9 : decode cX10_mend 9 = .ok (.aload_n 0, 1) := by decide +kernel
theorem dX10_mend_10 : decode cX10_mend 10 = .ok (.iload_n 2, 1) := by decide +kernel
theorem dX10_mend_11 : decode cX10_mend 11 = .ok (.iload_n 3, 1) := by decide +kernel
theorem dX10_mend_12 : decode cX10_mend 12 = .ok (.invokevirtual 183, 3) := by decide +kernel
theorem dX10_mend_15 : decode cX10_mend 15 = .ok (.ifCond .eq 13, 3) := by decide +kernel
theorem dX10_mend_18 : decode cX10_mend 18 = .ok (.aload_n 0, 1) := by decide +kernel
theorem dX10_mend_19 : decode cX10_mend 19 = .ok (.iload_n 2, 1) := by decide +kernel
theorem dX10_mend_20 : decode cX10_mend 20 = .ok (.iload_n 1, 1) := by decide +kernel
theorem dX10_mend_21 : decode cX10_mend 21 = .ok (.iload_n 3, 1) := by decide +kernel
theorem dX10_mend_22 : decode cX10_mend 22 = .ok (.invokevirtual 186, 3) := by decide +kernel
theorem dX10_mend_25 : decode cX10_mend 25 = .ok (.goto 4, 3) := by decide +kernel
theorem dX10_mend_28 : decode cX10_mend 28 = .ok (.iconst (-1), 1) := by decide +kernel
theorem dX10_mend_29 : decode cX10_mend 29 = .ok (.ireturn, 1) := by decide +kernel
theorem dX10_of_0 : decode cX10_of 0 = .ok (.aload_n 0, 1) := by decide +kernel
theorem dX10_of_1 : decode cX10_of 1 = .ok (.iload_n 1, 1) := by decide +kernel
theorem dX10_of_2 : decode cX10_of 2 = .ok (.iload_n 2, 1) := by decide +kernel
theorem dX10_of_3 : decode cX10_of 3 = .ok (.invokevirtual 179, 3) := by decide +kernel
theorem dX10_of_6 : decode cX10_of 6 = .ok (.ifCond .eq 12, 3) := by decide +kernel
theorem dX10_of_9 : decode cX10_of 9 = .ok (.aload_n 0, 1) := by decide +kernel
theorem dX10_of_10 : decode cX10_of 10 = .ok (.iload_n 2, 1) := by decide +kernel
theorem dX10_of_11 : decode cX10_of 11 = .ok (.iload_n 1, 1) := by decide +kernel
theorem dX10_of_12 : decode cX10_of 12 = .ok (.invokevirtual 159, 3) := by decide +kernel
theorem dX10_of_15 : decode cX10_of 15 = .ok (.goto 4, 3) := by decide +kernel
theorem dX10_of_18 : decode cX10_of 18 = .ok (.iconst (-1), 1) := by decide +kernel
theorem dX10_of_19 : decode cX10_of 19 = .ok (.ireturn, 1) := by decide +kernel
theorem dX10_feed_0 : decode cX10_feed 0 = .ok (.iload_n 1, 1) := by decide +kernel
theorem dX10_feed_1 : decode cX10_feed 1 = .ok (.iconst 0, 1) := by decide +kernel
theorem dX10_feed_2 : decode cX10_feed 2 = .ok (.sipush 255, 3) := by decide +kernel
theorem dX10_feed_5 : decode cX10_feed 5 = .ok (.invokestatic 142, 3) := by decide +kernel
theorem dX10_feed_8 : decode cX10_feed 8 = .ok (.ifCond .ne 5, 3) := by decide +kernel
theorem dX10_feed_11 : decode cX10_feed 11 = .ok (.iconst (-1), 1) := by decide +kernel
theorem dX10_feed_12 : decode cX10_feed 12 = .ok (.ireturn, 1) := by decide +kernel
theorem dX10_feed_13 : decode cX10_feed 13 = .ok (.aload_n 0, 1) := by decide +kernel
theorem dX10_feed_14 : decode cX10_feed 14 = .ok (.getfield 189, 3) := by decide +kernel
theorem dX10_feed_17 : decode cX10_feed 17 = .ok (.bipush 120, 2) := by decide +kernel
theorem dX10_feed_19 : decode cX10_feed 19 = .ok (.if_icmp .ne 6, 3) := by decide +kernel
theorem dX10_feed_22 : decode cX10_feed 22 = .ok (.bipush (-3), 2) := by decide +kernel
theorem dX10_feed_24 : decode cX10_feed 24 = .ok (.ireturn, 1) := by decide +kernel
theorem dX10_feed_25 : decode cX10_feed 25 = .ok (.aload_n 0, 1) := by decide +kernel
theorem dX10_feed_26 : decode cX10_feed 26 = .ok (.getfield 48, 3) := by decide +kernel
theorem dX10_feed_29 : decode cX10_feed 29 = .ok (.aload_n 0, 1) := by decide +kernel
theorem dX10_feed_30 : decode cX10_feed 30 = .ok (.getfield 189, 3) := by decide +kernel
theorem dX10_feed_33 : decode cX10_feed 33 = .ok (.iload_n 1, 1) := by decide +kernel
theorem dX10_feed_34 : decode cX10_feed 34 = .ok (.i2b, 1) := by decide +kernel
theorem dX10_feed_35 : decode cX10_feed 35 = .ok (.bastore, 1) := by decide +kernel
theorem dX10_feed_36 : decode cX10_feed 36 = .ok (.aload_n 0, 1) := by decide +kernel
theorem dX10_feed_37 : decode cX10_feed 37 = .ok (.dup, 1) := by decide +kernel
theorem dX10_feed_38 : decode cX10_feed 38 = .ok (.getfield 189, 3) := by decide +kernel
theorem dX10_feed_41 : decode cX10_feed 41 = .ok (.iconst 1, 1) := by decide +kernel
theorem dX10_feed_42 : decode cX10_feed 42 = .ok (.iadd, 1) := by decide +kernel
theorem dX10_feed_43 : decode cX10_feed 43 = .ok (.putfield 189, 3) := by decide +kernel
theorem dX10_feed_46 : decode cX10_feed 46 = .ok (.aload_n 0, 1) := by decide +kernel
theorem dX10_feed_47 : decode cX10_feed 47 = .ok (.getfield 189, 3) := by decide +kernel
theorem dX10_feed_50 : decode cX10_feed 50 = .ok (.ireturn, 1) := by decide +kernel
theorem dX10_look_0 : decode cX10_look 0 = .ok (.aload_n 0, 1) := by decide +kernel
theorem dX10_look_1 : decode cX10_look 1 = .ok (.getfield 192, 3) := by decide +kernel
theorem dX10_look_4 : decode cX10_look 4 = .ok (.aload_n 0, 1) := by decide +kernel
theorem dX10_look_5 : decode cX10_look 5 = .ok (.getfield 189, 3) := by decide +kernel
theorem dX10_look_8 : decode cX10_look 8 = .ok (.if_icmp .ge 15, 3) := by decide +kernel
theorem dX10_look_11 : decode cX10_look 11 = .ok (.aload_n 0, 1) := by decide +kernel
theorem dX10_look_12 : decode cX10_look 12 = .ok (.getfield 48, 3) := by decide +kernel
theorem dX10_look_15 : decode cX10_look 15 = .ok (.aload_n 0, 1) := by decide +kernel
theorem dX10_look_16 : decode cX10_look 16 = .ok (.getfield 192, 3) := by decide +kernel
theorem dX10_look_19 : decode cX10_look 19 = .ok (.baload, 1) := by decide +kernel
theorem dX10_look_20 : decode cX10_look 20 = .ok (.goto 4, 3) := by decide +kernel
theorem dX10_look_23 : decode cX10_look 23 = .ok (.iconst (-1), 1) := by decide +kernel
theorem dX10_look_24 : decode cX10_look 24 = .ok (.ireturn, 1) := by decide +kernel
theorem dX10_wrong_0 : decode cX10_wrong 0 = .ok (.aload_n 0, 1) := by decide +kernel
theorem dX10_wrong_1 : decode cX10_wrong 1 = .ok (.getfield 195, 3) := by decide +kernel
theorem dX10_wrong_4 : decode cX10_wrong 4 = .ok (.ifCond .ge 11, 3) := by decide +kernel
theorem dX10_wrong_7 : decode cX10_wrong 7 = .ok (.aload_n 0, 1) := by decide +kernel
theorem dX10_wrong_8 : decode cX10_wrong 8 = .ok (.aload_n 0, 1) := by decide +kernel
theorem dX10_wrong_9 : decode cX10_wrong 9 = .ok (.getfield 192, 3) := by decide +kernel
theorem dX10_wrong_12 : decode cX10_wrong 12 = .ok (.putfield 195, 3) := by decide +kernel
theorem dX10_wrong_15 : decode cX10_wrong 15 = .ok (.return_, 1) := by decide +kernel
theorem dX10_addStep_0 : decode cX10_addStep 0 = .ok (.aload_n 0, 1) := by decide +kernel
theorem dX10_addStep_1 : decode cX10_addStep 1 = .ok (.getfield 52, 3) := by decide +kernel
theorem dX10_addStep_4 : decode cX10_addStep 4 = .ok (.sipush 130, 3) := by decide +kernel
theorem dX10_addStep_7 : decode cX10_addStep 7 = .ok (.aload_n 0, 1) := by decide +kernel
theorem dX10_addStep_8 : decode cX10_addStep 8 = .ok (.getfield 198, 3) := by decide +kernel
theorem dX10_addStep_11 : decode cX10_addStep 11 = .ok (.iadd, 1) := by decide +kernel
theorem dX10_addStep_12 : decode cX10_addStep 12 = .ok (.iload_n 1, 1) := by decide +kernel
theorem dX10_addStep_13 : decode cX10_addStep 13 = .ok (.i2b, 1) := by decide +kernel
theorem dX10_addStep_14 : decode cX10_addStep 14 = .ok (.bastore, 1) := by decide +kernel
theorem dX10_addStep_15 : decode cX10_addStep 15 = .ok (.aload_n 0, 1) := by decide +kernel
theorem dX10_addStep_16 : decode cX10_addStep 16 = .ok (.getfield 55, 3) := by decide +kernel
theorem dX10_addStep_19 : decode cX10_addStep 19 = .ok (.sipush 130, 3) := by decide +kernel
theorem dX10_addStep_22 : decode cX10_addStep 22 = .ok (.aload_n 0, 1) := by decide +kernel
theorem dX10_addStep_23 : decode cX10_addStep 23 = .ok (.getfield 198, 3) := by decide +kernel
theorem dX10_addStep_26 : decode cX10_addStep 26 = .ok (.iadd, 1) := by decide +kernel
theorem dX10_addStep_27 : decode cX10_addStep 27 = .ok (.iload_n 2, 1) := by decide +kernel
theorem dX10_addStep_28 : decode cX10_addStep 28 = .ok (.iastore, 1) := by decide +kernel
theorem dX10_addStep_29 : decode cX10_addStep 29 = .ok (.aload_n 0, 1) := by decide +kernel
theorem dX10_addStep_30 : decode cX10_addStep 30 = .ok (.dup, 1) := by decide +kernel
theorem dX10_addStep_31 : decode cX10_addStep 31 = .ok (.getfield 198, 3) := by decide +kernel
theorem dX10_addStep_34 : decode cX10_addStep 34 = .ok (.iconst 1, 1) := by decide +kernel
theorem dX10_addStep_35 : decode cX10_addStep 35 = .ok (.iadd, 1) := by decide +kernel
theorem dX10_addStep_36 : decode cX10_addStep 36 = .ok (.putfield 198, 3) := by decide +kernel
theorem dX10_addStep_39 : decode cX10_addStep 39 = .ok (.return_, 1) := by decide +kernel
theorem dX10_nameOf_0 : decode cX10_nameOf 0 = .ok (.iload_n 0, 1) := by decide +kernel
theorem dX10_nameOf_1 : decode cX10_nameOf 1 = .ok (.lookupswitch 71 #[(99, 59), (100, 67), (108, 63), (112, 65), (115, 61), (119, 69)], 59) := by decide +kernel
theorem dX10_nameOf_60 : decode cX10_nameOf 60 = .ok (.iconst 0, 1) := by decide +kernel
theorem dX10_nameOf_61 : decode cX10_nameOf 61 = .ok (.ireturn, 1) := by decide +kernel
theorem dX10_nameOf_62 : decode cX10_nameOf 62 = .ok (.iconst 1, 1) := by decide +kernel
theorem dX10_nameOf_63 : decode cX10_nameOf 63 = .ok (.ireturn, 1) := by decide +kernel
theorem dX10_nameOf_64 : decode cX10_nameOf 64 = .ok (.iconst 2, 1) := by decide +kernel
theorem dX10_nameOf_65 : decode cX10_nameOf 65 = .ok (.ireturn, 1) := by decide +kernel
theorem dX10_nameOf_66 : decode cX10_nameOf 66 = .ok (.iconst 3, 1) := by decide +kernel
theorem dX10_nameOf_67 : decode cX10_nameOf 67 = .ok (.ireturn, 1) := by decide +kernel
theorem dX10_nameOf_68 : decode cX10_nameOf 68 = .ok (.iconst 4, 1) := by decide +kernel
theorem dX10_nameOf_69 : decode cX10_nameOf 69 = .ok (.ireturn, 1) := by decide +kernel
theorem dX10_nameOf_70 : decode cX10_nameOf 70 = .ok (.iconst 5, 1) := by decide +kernel
theorem dX10_nameOf_71 : decode cX10_nameOf 71 = .ok (.ireturn, 1) := by decide +kernel
theorem dX10_nameOf_72 : decode cX10_nameOf 72 = .ok (.iconst (-1), 1) := by decide +kernel
theorem dX10_nameOf_73 : decode cX10_nameOf 73 = .ok (.ireturn, 1) := by decide +kernel
theorem dX10_opens_0 : decode cX10_opens 0 = .ok (.aload_n 0, 1) := by decide +kernel
theorem dX10_opens_1 : decode cX10_opens 1 = .ok (.getfield 201, 3) := by decide +kernel
theorem dX10_opens_4 : decode cX10_opens 4 = .ok (.bipush 6, 2) := by decide +kernel
theorem dX10_opens_6 : decode cX10_opens 6 = .ok (.if_icmp .ne 9, 3) := by decide +kernel
theorem dX10_opens_9 : decode cX10_opens 9 = .ok (.aload_n 0, 1) := by decide +kernel
theorem dX10_opens_10 : decode cX10_opens 10 = .ok (.invokevirtual 204, 3) := by decide +kernel
theorem dX10_opens_13 : decode cX10_opens 13 = .ok (.iconst 0, 1) := by decide +kernel
theorem dX10_opens_14 : decode cX10_opens 14 = .ok (.ireturn, 1) := by decide +kernel
theorem dX10_opens_15 : decode cX10_opens 15 = .ok (.aload_n 0, 1) := by decide +kernel
theorem dX10_opens_16 : decode cX10_opens 16 = .ok (.dup, 1) := by decide +kernel
theorem dX10_opens_17 : decode cX10_opens 17 = .ok (.getfield 201, 3) := by decide +kernel
theorem dX10_opens_20 : decode cX10_opens 20 = .ok (.iconst 1, 1) := by decide +kernel
theorem dX10_opens_21 : decode cX10_opens 21 = .ok (.iadd, 1) := by decide +kernel
theorem dX10_opens_22 : decode cX10_opens 22 = .ok (.putfield 201, 3) := by decide +kernel
theorem dX10_opens_25 : decode cX10_opens 25 = .ok (.aload_n 0, 1) := by decide +kernel
theorem dX10_opens_26 : decode cX10_opens 26 = .ok (.dup, 1) := by decide +kernel
theorem dX10_opens_27 : decode cX10_opens 27 = .ok (.getfield 192, 3) := by decide +kernel
theorem dX10_opens_30 : decode cX10_opens 30 = .ok (.iconst 1, 1) := by decide +kernel
theorem dX10_opens_31 : decode cX10_opens 31 = .ok (.iadd, 1) := by decide +kernel
theorem dX10_opens_32 : decode cX10_opens 32 = .ok (.putfield 192, 3) := by decide +kernel
theorem dX10_opens_35 : decode cX10_opens 35 = .ok (.iconst 1, 1) := by decide +kernel
theorem dX10_opens_36 : decode cX10_opens 36 = .ok (.ireturn, 1) := by decide +kernel
theorem dX10_figure_0 : decode cX10_figure 0 = .ok (.iconst 0, 1) := by decide +kernel
theorem dX10_figure_1 : decode cX10_figure 1 = .ok (.istore_n 1, 1) := by decide +kernel
theorem dX10_figure_2 : decode cX10_figure 2 = .ok (.iconst 0, 1) := by decide +kernel
theorem dX10_figure_3 : decode cX10_figure 3 = .ok (.istore_n 2, 1) := by decide +kernel
theorem dX10_figure_4 : decode cX10_figure 4 = .ok (.iload_n 2, 1) := by decide +kernel
theorem dX10_figure_5 : decode cX10_figure 5 = .ok (.iconst 4, 1) := by decide +kernel
theorem dX10_figure_6 : decode cX10_figure 6 = .ok (.if_icmp .ge 46, 3) := by decide +kernel
theorem dX10_figure_9 : decode cX10_figure 9 = .ok (.aload_n 0, 1) := by decide +kernel
theorem dX10_figure_10 : decode cX10_figure 10 = .ok (.invokevirtual 207, 3) := by decide +kernel
theorem dX10_figure_13 : decode cX10_figure 13 = .ok (.bipush 48, 2) := by decide +kernel
theorem dX10_figure_15 : decode cX10_figure 15 = .ok (.bipush 57, 2) := by decide +kernel
theorem dX10_figure_17 : decode cX10_figure 17 = .ok (.invokestatic 142, 3) := by decide +kernel
theorem dX10_figure_20 : decode cX10_figure 20 = .ok (.ifCond .eq 32, 3) := by decide +kernel
theorem dX10_figure_23 : decode cX10_figure 23 = .ok (.bipush 10, 2) := by decide +kernel
theorem dX10_figure_25 : decode cX10_figure 25 = .ok (.iload_n 1, 1) := by decide +kernel
theorem dX10_figure_26 : decode cX10_figure 26 = .ok (.imul, 1) := by decide +kernel
theorem dX10_figure_27 : decode cX10_figure 27 = .ok (.aload_n 0, 1) := by decide +kernel
theorem dX10_figure_28 : decode cX10_figure 28 = .ok (.invokevirtual 207, 3) := by decide +kernel
theorem dX10_figure_31 : decode cX10_figure 31 = .ok (.iadd, 1) := by decide +kernel
theorem dX10_figure_32 : decode cX10_figure 32 = .ok (.bipush 48, 2) := by decide +kernel
theorem dX10_figure_34 : decode cX10_figure 34 = .ok (.isub, 1) := by decide +kernel
theorem dX10_figure_35 : decode cX10_figure 35 = .ok (.istore_n 1, 1) := by decide +kernel
theorem dX10_figure_36 : decode cX10_figure 36 = .ok (.iinc 2 1, 3) := by decide +kernel
theorem dX10_figure_39 : decode cX10_figure 39 = .ok (.aload_n 0, 1) := by decide +kernel
theorem dX10_figure_40 : decode cX10_figure 40 = .ok (.dup, 1) := by decide +kernel
theorem dX10_figure_41 : decode cX10_figure 41 = .ok (.getfield 192, 3) := by decide +kernel
theorem dX10_figure_44 : decode cX10_figure 44 = .ok (.iconst 1, 1) := by decide +kernel
theorem dX10_figure_45 : decode cX10_figure 45 = .ok (.iadd, 1) := by decide +kernel
theorem dX10_figure_46 : decode cX10_figure 46 = .ok (.putfield 192, 3) := by decide +kernel
theorem dX10_figure_49 : decode cX10_figure 49 = .ok (.goto (-45), 3) := by decide +kernel
theorem dX10_figure_52 : decode cX10_figure 52 = .ok (.iload_n 2, 1) := by decide +kernel
theorem dX10_figure_53 : decode cX10_figure 53 = .ok (.ifCond .eq 17, 3) := by decide +kernel
theorem dX10_figure_56 : decode cX10_figure 56 = .ok (.aload_n 0, 1) := by decide +kernel
theorem dX10_figure_57 : decode cX10_figure 57 = .ok (.invokevirtual 207, 3) := by decide +kernel
theorem dX10_figure_60 : decode cX10_figure 60 = .ok (.bipush 48, 2) := by decide +kernel
theorem dX10_figure_62 : decode cX10_figure 62 = .ok (.bipush 57, 2) := by decide +kernel
theorem dX10_figure_64 : decode cX10_figure 64 = .ok (.invokestatic 142, 3) := by decide +kernel
theorem dX10_figure_67 : decode cX10_figure 67 = .ok (.ifCond .eq 7, 3) := by decide +kernel
theorem dX10_figure_70 : decode cX10_figure 70 = .ok (.aload_n 0, 1) := by decide +kernel
theorem dX10_figure_71 : decode cX10_figure 71 = .ok (.invokevirtual 204, 3) := by decide +kernel
theorem dX10_figure_74 : decode cX10_figure 74 = .ok (.aload_n 0, 1) := by decide +kernel
theorem dX10_figure_75 : decode cX10_figure 75 = .ok (.iconst 1, 1) := by decide +kernel
theorem dX10_figure_76 : decode cX10_figure 76 = .ok (.iload_n 1, 1) := by decide +kernel
theorem dX10_figure_77 : decode cX10_figure 77 = .ok (.invokevirtual 211, 3) := by decide +kernel
theorem dX10_figure_80 : decode cX10_figure 80 = .ok (.return_, 1) := by decide +kernel
theorem dX10_operand_0 : decode cX10_operand 0 = .ok (.aload_n 0, 1) := by decide +kernel
theorem dX10_operand_1 : decode cX10_operand 1 = .ok (.invokevirtual 207, 3) := by decide +kernel
theorem dX10_operand_4 : decode cX10_operand 4 = .ok (.istore_n 1, 1) := by decide +kernel
theorem dX10_operand_5 : decode cX10_operand 5 = .ok (.iload_n 1, 1) := by decide +kernel
theorem dX10_operand_6 : decode cX10_operand 6 = .ok (.invokestatic 215, 3) := by decide +kernel
theorem dX10_operand_9 : decode cX10_operand 9 = .ok (.ifCond .lt 25, 3) := by decide +kernel
theorem dX10_operand_12 : decode cX10_operand 12 = .ok (.aload_n 0, 1) := by decide +kernel
theorem dX10_operand_13 : decode cX10_operand 13 = .ok (.iconst 2, 1) := by decide +kernel
theorem dX10_operand_14 : decode cX10_operand 14 = .ok (.iload_n 1, 1) := by decide +kernel
theorem dX10_operand_15 : decode cX10_operand 15 = .ok (.invokestatic 215, 3) := by decide +kernel
theorem dX10_operand_18 : decode cX10_operand 18 = .ok (.invokevirtual 211, 3) := by decide +kernel
theorem dX10_operand_21 : decode cX10_operand 21 = .ok (.aload_n 0, 1) := by decide +kernel
theorem dX10_operand_22 : decode cX10_operand 22 = .ok (.dup, 1) := by decide +kernel
theorem dX10_operand_23 : decode cX10_operand 23 = .ok (.getfield 192, 3) := by decide +kernel
theorem dX10_operand_26 : decode cX10_operand 26 = .ok (.iconst 1, 1) := by decide +kernel
theorem dX10_operand_27 : decode cX10_operand 27 = .ok (.iadd, 1) := by decide +kernel
theorem dX10_operand_28 : decode cX10_operand 28 = .ok (.putfield 192, 3) := by decide +kernel
theorem dX10_operand_31 : decode cX10_operand 31 = .ok (.goto 123, 3) := by decide +kernel
theorem dX10_operand_34 : decode cX10_operand 34 = .ok (.iload_n 1, 1) := by decide +kernel
theorem dX10_operand_35 : decode cX10_operand 35 = .ok (.bipush 33, 2) := by decide +kernel
theorem dX10_operand_37 : decode cX10_operand 37 = .ok (.if_icmp .eq 9, 3) := by decide +kernel
theorem dX10_operand_40 : decode cX10_operand 40 = .ok (.iload_n 1, 1) := by decide +kernel
theorem dX10_operand_41 : decode cX10_operand 41 = .ok (.bipush 45, 2) := by decide +kernel
theorem dX10_operand_43 : decode cX10_operand 43 = .ok (.if_icmp .ne 44, 3) := by decide +kernel
theorem dX10_operand_46 : decode cX10_operand 46 = .ok (.aload_n 0, 1) := by decide +kernel
theorem dX10_operand_47 : decode cX10_operand 47 = .ok (.invokevirtual 219, 3) := by decide +kernel
theorem dX10_operand_50 : decode cX10_operand 50 = .ok (.ifCond .ne 4, 3) := by decide +kernel
theorem dX10_operand_53 : decode cX10_operand 53 = .ok (.return_, 1) := by decide +kernel
theorem dX10_operand_54 : decode cX10_operand 54 = .ok (.aload_n 0, 1) := by decide +kernel
theorem dX10_operand_55 : decode cX10_operand 55 = .ok (.invokevirtual 223, 3) := by decide +kernel
theorem dX10_operand_58 : decode cX10_operand 58 = .ok (.aload_n 0, 1) := by decide +kernel
theorem dX10_operand_59 : decode cX10_operand 59 = .ok (.dup, 1) := by decide +kernel
theorem dX10_operand_60 : decode cX10_operand 60 = .ok (.getfield 201, 3) := by decide +kernel
theorem dX10_operand_63 : decode cX10_operand 63 = .ok (.iconst 1, 1) := by decide +kernel
theorem dX10_operand_64 : decode cX10_operand 64 = .ok (.isub, 1) := by decide +kernel
theorem dX10_operand_65 : decode cX10_operand 65 = .ok (.putfield 201, 3) := by decide +kernel
theorem dX10_operand_68 : decode cX10_operand 68 = .ok (.aload_n 0, 1) := by decide +kernel
theorem dX10_operand_69 : decode cX10_operand 69 = .ok (.iload_n 1, 1) := by decide +kernel
theorem dX10_operand_70 : decode cX10_operand 70 = .ok (.bipush 33, 2) := by decide +kernel
theorem dX10_operand_72 : decode cX10_operand 72 = .ok (.if_icmp .ne 7, 3) := by decide +kernel
theorem dX10_operand_75 : decode cX10_operand 75 = .ok (.iconst 3, 1) := by decide +kernel
theorem dX10_operand_76 : decode cX10_operand 76 = .ok (.goto 4, 3) := by decide +kernel
theorem dX10_operand_79 : decode cX10_operand 79 = .ok (.iconst 4, 1) := by decide +kernel
theorem dX10_operand_80 : decode cX10_operand 80 = .ok (.iconst 0, 1) := by decide +kernel
theorem dX10_operand_81 : decode cX10_operand 81 = .ok (.invokevirtual 211, 3) := by decide +kernel
theorem dX10_operand_84 : decode cX10_operand 84 = .ok (.goto 70, 3) := by decide +kernel
theorem dX10_operand_87 : decode cX10_operand 87 = .ok (.iload_n 1, 1) := by decide +kernel
theorem dX10_operand_88 : decode cX10_operand 88 = .ok (.bipush 40, 2) := by decide +kernel
theorem dX10_operand_90 : decode cX10_operand 90 = .ok (.if_icmp .ne 60, 3) := by decide +kernel
theorem dX10_operand_93 : decode cX10_operand 93 = .ok (.aload_n 0, 1) := by decide +kernel
theorem dX10_operand_94 : decode cX10_operand 94 = .ok (.invokevirtual 219, 3) := by decide +kernel
theorem dX10_operand_97 : decode cX10_operand 97 = .ok (.ifCond .ne 4, 3) := by decide +kernel
theorem dX10_operand_100 : decode cX10_operand 100 = .ok (.return_, 1) := by decide +kernel
theorem dX10_operand_101 : decode cX10_operand 101 = .ok (.aload_n 0, 1) := by decide +kernel
theorem dX10_operand_102 : decode cX10_operand 102 = .ok (.invokevirtual 226, 3) := by decide +kernel
theorem dX10_operand_105 : decode cX10_operand 105 = .ok (.aload_n 0, 1) := by decide +kernel
theorem dX10_operand_106 : decode cX10_operand 106 = .ok (.getfield 195, 3) := by decide +kernel
theorem dX10_operand_109 : decode cX10_operand 109 = .ok (.ifCond .lt 4, 3) := by decide +kernel
theorem dX10_operand_112 : decode cX10_operand 112 = .ok (.return_, 1) := by decide +kernel
theorem dX10_operand_113 : decode cX10_operand 113 = .ok (.aload_n 0, 1) := by decide +kernel
theorem dX10_operand_114 : decode cX10_operand 114 = .ok (.invokevirtual 207, 3) := by decide +kernel
theorem dX10_operand_117 : decode cX10_operand 117 = .ok (.bipush 41, 2) := by decide +kernel
theorem dX10_operand_119 : decode cX10_operand 119 = .ok (.if_icmp .eq 8, 3) := by decide +kernel
theorem dX10_operand_122 : decode cX10_operand 122 = .ok (.aload_n 0, 1) := by decide +kernel
theorem dX10_operand_123 : decode cX10_operand 123 = .ok (.invokevirtual 204, 3) := by decide +kernel
theorem dX10_operand_126 : decode cX10_operand 126 = .ok (.return_, 1) := by decide +kernel
theorem dX10_operand_127 : decode cX10_operand 127 = .ok (.aload_n 0, 1) := by decide +kernel
theorem dX10_operand_128 : decode cX10_operand 128 = .ok (.dup, 1) := by decide +kernel
theorem dX10_operand_129 : decode cX10_operand 129 = .ok (.getfield 192, 3) := by decide +kernel
theorem dX10_operand_132 : decode cX10_operand 132 = .ok (.iconst 1, 1) := by decide +kernel
theorem dX10_operand_133 : decode cX10_operand 133 = .ok (.iadd, 1) := by decide +kernel
theorem dX10_operand_134 : decode cX10_operand 134 = .ok (.putfield 192, 3) := by decide +kernel
theorem dX10_operand_137 : decode cX10_operand 137 = .ok (.aload_n 0, 1) := by decide +kernel
theorem dX10_operand_138 : decode cX10_operand 138 = .ok (.dup, 1) := by decide +kernel
theorem dX10_operand_139 : decode cX10_operand 139 = .ok (.getfield 201, 3) := by decide +kernel
theorem dX10_operand_142 : decode cX10_operand 142 = .ok (.iconst 1, 1) := by decide +kernel
theorem dX10_operand_143 : decode cX10_operand 143 = .ok (.isub, 1) := by decide +kernel
theorem dX10_operand_144 : decode cX10_operand 144 = .ok (.putfield 201, 3) := by decide +kernel
theorem dX10_operand_147 : decode cX10_operand 147 = .ok (.goto 7, 3) := by decide +kernel
theorem dX10_operand_150 : decode cX10_operand 150 = .ok (.aload_n 0, 1) := by decide +kernel
theorem dX10_operand_151 : decode cX10_operand 151 = .ok (.invokevirtual 229, 3) := by decide +kernel
theorem dX10_operand_154 : decode cX10_operand 154 = .ok (.return_, 1) := by decide +kernel
theorem dX10_product_0 : decode cX10_product 0 = .ok (.aload_n 0, 1) := by decide +kernel
theorem dX10_product_1 : decode cX10_product 1 = .ok (.invokevirtual 223, 3) := by decide +kernel
theorem dX10_product_4 : decode cX10_product 4 = .ok (.aload_n 0, 1) := by decide +kernel
theorem dX10_product_5 : decode cX10_product 5 = .ok (.getfield 195, 3) := by decide +kernel
theorem dX10_product_8 : decode cX10_product 8 = .ok (.ifCond .ge 58, 3) := by decide +kernel
theorem dX10_product_11 : decode cX10_product 11 = .ok (.aload_n 0, 1) := by decide +kernel
theorem dX10_product_12 : decode cX10_product 12 = .ok (.invokevirtual 207, 3) := by decide +kernel
theorem dX10_product_15 : decode cX10_product 15 = .ok (.bipush 42, 2) := by decide +kernel
theorem dX10_product_17 : decode cX10_product 17 = .ok (.if_icmp .eq 21, 3) := by decide +kernel
theorem dX10_product_20 : decode cX10_product 20 = .ok (.aload_n 0, 1) := by decide +kernel
theorem dX10_product_21 : decode cX10_product 21 = .ok (.invokevirtual 207, 3) := by decide +kernel
theorem dX10_product_24 : decode cX10_product 24 = .ok (.bipush 47, 2) := by decide +kernel
theorem dX10_product_26 : decode cX10_product 26 = .ok (.if_icmp .eq 12, 3) := by decide +kernel
theorem dX10_product_29 : decode cX10_product 29 = .ok (.aload_n 0, 1) := by decide +kernel
theorem dX10_product_30 : decode cX10_product 30 = .ok (.invokevirtual 207, 3) := by decide +kernel
theorem dX10_product_33 : decode cX10_product 33 = .ok (.bipush 37, 2) := by decide +kernel
theorem dX10_product_35 : decode cX10_product 35 = .ok (.if_icmp .ne 31, 3) := by decide +kernel
theorem dX10_product_38 : decode cX10_product 38 = .ok (.aload_n 0, 1) := by decide +kernel
theorem dX10_product_39 : decode cX10_product 39 = .ok (.invokevirtual 207, 3) := by decide +kernel
theorem dX10_product_42 : decode cX10_product 42 = .ok (.istore_n 1, 1) := by decide +kernel
theorem dX10_product_43 : decode cX10_product 43 = .ok (.aload_n 0, 1) := by decide +kernel
theorem dX10_product_44 : decode cX10_product 44 = .ok (.dup, 1) := by decide +kernel
theorem dX10_product_45 : decode cX10_product 45 = .ok (.getfield 192, 3) := by decide +kernel
theorem dX10_product_48 : decode cX10_product 48 = .ok (.iconst 1, 1) := by decide +kernel
theorem dX10_product_49 : decode cX10_product 49 = .ok (.iadd, 1) := by decide +kernel
theorem dX10_product_50 : decode cX10_product 50 = .ok (.putfield 192, 3) := by decide +kernel
theorem dX10_product_53 : decode cX10_product 53 = .ok (.aload_n 0, 1) := by decide +kernel
theorem dX10_product_54 : decode cX10_product 54 = .ok (.invokevirtual 223, 3) := by decide +kernel
theorem dX10_product_57 : decode cX10_product 57 = .ok (.aload_n 0, 1) := by decide +kernel
theorem dX10_product_58 : decode cX10_product 58 = .ok (.iload_n 1, 1) := by decide +kernel
theorem dX10_product_59 : decode cX10_product 59 = .ok (.iconst 0, 1) := by decide +kernel
theorem dX10_product_60 : decode cX10_product 60 = .ok (.invokevirtual 211, 3) := by decide +kernel
theorem dX10_product_63 : decode cX10_product 63 = .ok (.goto (-59), 3) := by decide +kernel
theorem dX10_product_66 : decode cX10_product 66 = .ok (.return_, 1) := by decide +kernel
theorem dX10_sum_0 : decode cX10_sum 0 = .ok (.aload_n 0, 1) := by decide +kernel
theorem dX10_sum_1 : decode cX10_sum 1 = .ok (.invokevirtual 232, 3) := by decide +kernel
theorem dX10_sum_4 : decode cX10_sum 4 = .ok (.aload_n 0, 1) := by decide +kernel
theorem dX10_sum_5 : decode cX10_sum 5 = .ok (.getfield 195, 3) := by decide +kernel
theorem dX10_sum_8 : decode cX10_sum 8 = .ok (.ifCond .ge 49, 3) := by decide +kernel
theorem dX10_sum_11 : decode cX10_sum 11 = .ok (.aload_n 0, 1) := by decide +kernel
theorem dX10_sum_12 : decode cX10_sum 12 = .ok (.invokevirtual 207, 3) := by decide +kernel
theorem dX10_sum_15 : decode cX10_sum 15 = .ok (.bipush 43, 2) := by decide +kernel
theorem dX10_sum_17 : decode cX10_sum 17 = .ok (.if_icmp .eq 12, 3) := by decide +kernel
theorem dX10_sum_20 : decode cX10_sum 20 = .ok (.aload_n 0, 1) := by decide +kernel
theorem dX10_sum_21 : decode cX10_sum 21 = .ok (.invokevirtual 207, 3) := by decide +kernel
theorem dX10_sum_24 : decode cX10_sum 24 = .ok (.bipush 45, 2) := by decide +kernel
theorem dX10_sum_26 : decode cX10_sum 26 = .ok (.if_icmp .ne 31, 3) := by decide +kernel
theorem dX10_sum_29 : decode cX10_sum 29 = .ok (.aload_n 0, 1) := by decide +kernel
theorem dX10_sum_30 : decode cX10_sum 30 = .ok (.invokevirtual 207, 3) := by decide +kernel
theorem dX10_sum_33 : decode cX10_sum 33 = .ok (.istore_n 1, 1) := by decide +kernel
theorem dX10_sum_34 : decode cX10_sum 34 = .ok (.aload_n 0, 1) := by decide +kernel
theorem dX10_sum_35 : decode cX10_sum 35 = .ok (.dup, 1) := by decide +kernel
theorem dX10_sum_36 : decode cX10_sum 36 = .ok (.getfield 192, 3) := by decide +kernel
theorem dX10_sum_39 : decode cX10_sum 39 = .ok (.iconst 1, 1) := by decide +kernel
theorem dX10_sum_40 : decode cX10_sum 40 = .ok (.iadd, 1) := by decide +kernel
theorem dX10_sum_41 : decode cX10_sum 41 = .ok (.putfield 192, 3) := by decide +kernel
theorem dX10_sum_44 : decode cX10_sum 44 = .ok (.aload_n 0, 1) := by decide +kernel
theorem dX10_sum_45 : decode cX10_sum 45 = .ok (.invokevirtual 232, 3) := by decide +kernel
theorem dX10_sum_48 : decode cX10_sum 48 = .ok (.aload_n 0, 1) := by decide +kernel
theorem dX10_sum_49 : decode cX10_sum 49 = .ok (.iload_n 1, 1) := by decide +kernel
theorem dX10_sum_50 : decode cX10_sum 50 = .ok (.iconst 0, 1) := by decide +kernel
theorem dX10_sum_51 : decode cX10_sum 51 = .ok (.invokevirtual 211, 3) := by decide +kernel
theorem dX10_sum_54 : decode cX10_sum 54 = .ok (.goto (-50), 3) := by decide +kernel
theorem dX10_sum_57 : decode cX10_sum 57 = .ok (.return_, 1) := by decide +kernel
theorem dX10_compared_0 : decode cX10_compared 0 = .ok (.aload_n 0, 1) := by decide +kernel
theorem dX10_compared_1 : decode cX10_compared 1 = .ok (.invokevirtual 235, 3) := by decide +kernel
theorem dX10_compared_4 : decode cX10_compared 4 = .ok (.aload_n 0, 1) := by decide +kernel
theorem dX10_compared_5 : decode cX10_compared 5 = .ok (.invokevirtual 207, 3) := by decide +kernel
theorem dX10_compared_8 : decode cX10_compared 8 = .ok (.istore_n 1, 1) := by decide +kernel
theorem dX10_compared_9 : decode cX10_compared 9 = .ok (.aload_n 0, 1) := by decide +kernel
theorem dX10_compared_10 : decode cX10_compared 10 = .ok (.getfield 195, 3) := by decide +kernel
theorem dX10_compared_13 : decode cX10_compared 13 = .ok (.ifCond .ge 21, 3) := by decide +kernel
theorem dX10_compared_16 : decode cX10_compared 16 = .ok (.iload_n 1, 1) := by decide +kernel
theorem dX10_compared_17 : decode cX10_compared 17 = .ok (.bipush 60, 2) := by decide +kernel
theorem dX10_compared_19 : decode cX10_compared 19 = .ok (.if_icmp .eq 16, 3) := by decide +kernel
theorem dX10_compared_22 : decode cX10_compared 22 = .ok (.iload_n 1, 1) := by decide +kernel
theorem dX10_compared_23 : decode cX10_compared 23 = .ok (.bipush 61, 2) := by decide +kernel
theorem dX10_compared_25 : decode cX10_compared 25 = .ok (.if_icmp .eq 10, 3) := by decide +kernel
theorem dX10_compared_28 : decode cX10_compared 28 = .ok (.iload_n 1, 1) := by decide +kernel
theorem dX10_compared_29 : decode cX10_compared 29 = .ok (.bipush 62, 2) := by decide +kernel
theorem dX10_compared_31 : decode cX10_compared 31 = .ok (.if_icmp .eq 4, 3) := by decide +kernel
theorem dX10_compared_34 : decode cX10_compared 34 = .ok (.return_, 1) := by decide +kernel
theorem dX10_compared_35 : decode cX10_compared 35 = .ok (.aload_n 0, 1) := by decide +kernel
theorem dX10_compared_36 : decode cX10_compared 36 = .ok (.dup, 1) := by decide +kernel
theorem dX10_compared_37 : decode cX10_compared 37 = .ok (.getfield 192, 3) := by decide +kernel
theorem dX10_compared_40 : decode cX10_compared 40 = .ok (.iconst 1, 1) := by decide +kernel
theorem dX10_compared_41 : decode cX10_compared 41 = .ok (.iadd, 1) := by decide +kernel
theorem dX10_compared_42 : decode cX10_compared 42 = .ok (.putfield 192, 3) := by decide +kernel
theorem dX10_compared_45 : decode cX10_compared 45 = .ok (.aload_n 0, 1) := by decide +kernel
theorem dX10_compared_46 : decode cX10_compared 46 = .ok (.invokevirtual 235, 3) := by decide +kernel
theorem dX10_compared_49 : decode cX10_compared 49 = .ok (.aload_n 0, 1) := by decide +kernel
theorem dX10_compared_50 : decode cX10_compared 50 = .ok (.iload_n 1, 1) := by decide +kernel
theorem dX10_compared_51 : decode cX10_compared 51 = .ok (.iconst 0, 1) := by decide +kernel
theorem dX10_compared_52 : decode cX10_compared 52 = .ok (.invokevirtual 211, 3) := by decide +kernel
theorem dX10_compared_55 : decode cX10_compared 55 = .ok (.return_, 1) := by decide +kernel
theorem dX10_both_0 : decode cX10_both 0 = .ok (.aload_n 0, 1) := by decide +kernel
theorem dX10_both_1 : decode cX10_both 1 = .ok (.invokevirtual 238, 3) := by decide +kernel
theorem dX10_both_4 : decode cX10_both 4 = .ok (.aload_n 0, 1) := by decide +kernel
theorem dX10_both_5 : decode cX10_both 5 = .ok (.getfield 195, 3) := by decide +kernel
theorem dX10_both_8 : decode cX10_both 8 = .ok (.ifCond .ge 36, 3) := by decide +kernel
theorem dX10_both_11 : decode cX10_both 11 = .ok (.aload_n 0, 1) := by decide +kernel
theorem dX10_both_12 : decode cX10_both 12 = .ok (.invokevirtual 207, 3) := by decide +kernel
theorem dX10_both_15 : decode cX10_both 15 = .ok (.bipush 38, 2) := by decide +kernel
theorem dX10_both_17 : decode cX10_both 17 = .ok (.if_icmp .ne 27, 3) := by decide +kernel
theorem dX10_both_20 : decode cX10_both 20 = .ok (.aload_n 0, 1) := by decide +kernel
theorem dX10_both_21 : decode cX10_both 21 = .ok (.dup, 1) := by decide +kernel
theorem dX10_both_22 : decode cX10_both 22 = .ok (.getfield 192, 3) := by decide +kernel
theorem dX10_both_25 : decode cX10_both 25 = .ok (.iconst 1, 1) := by decide +kernel
theorem dX10_both_26 : decode cX10_both 26 = .ok (.iadd, 1) := by decide +kernel
theorem dX10_both_27 : decode cX10_both 27 = .ok (.putfield 192, 3) := by decide +kernel
theorem dX10_both_30 : decode cX10_both 30 = .ok (.aload_n 0, 1) := by decide +kernel
theorem dX10_both_31 : decode cX10_both 31 = .ok (.invokevirtual 238, 3) := by decide +kernel
theorem dX10_both_34 : decode cX10_both 34 = .ok (.aload_n 0, 1) := by decide +kernel
theorem dX10_both_35 : decode cX10_both 35 = .ok (.bipush 38, 2) := by decide +kernel
theorem dX10_both_37 : decode cX10_both 37 = .ok (.iconst 0, 1) := by decide +kernel
theorem dX10_both_38 : decode cX10_both 38 = .ok (.invokevirtual 211, 3) := by decide +kernel
theorem dX10_both_41 : decode cX10_both 41 = .ok (.goto (-37), 3) := by decide +kernel
theorem dX10_both_44 : decode cX10_both 44 = .ok (.return_, 1) := by decide +kernel
theorem dX10_either_0 : decode cX10_either 0 = .ok (.aload_n 0, 1) := by decide +kernel
theorem dX10_either_1 : decode cX10_either 1 = .ok (.invokevirtual 241, 3) := by decide +kernel
theorem dX10_either_4 : decode cX10_either 4 = .ok (.aload_n 0, 1) := by decide +kernel
theorem dX10_either_5 : decode cX10_either 5 = .ok (.getfield 195, 3) := by decide +kernel
theorem dX10_either_8 : decode cX10_either 8 = .ok (.ifCond .ge 36, 3) := by decide +kernel
theorem dX10_either_11 : decode cX10_either 11 = .ok (.aload_n 0, 1) := by decide +kernel
theorem dX10_either_12 : decode cX10_either 12 = .ok (.invokevirtual 207, 3) := by decide +kernel
theorem dX10_either_15 : decode cX10_either 15 = .ok (.bipush 124, 2) := by decide +kernel
theorem dX10_either_17 : decode cX10_either 17 = .ok (.if_icmp .ne 27, 3) := by decide +kernel
theorem dX10_either_20 : decode cX10_either 20 = .ok (.aload_n 0, 1) := by decide +kernel
theorem dX10_either_21 : decode cX10_either 21 = .ok (.dup, 1) := by decide +kernel
theorem dX10_either_22 : decode cX10_either 22 = .ok (.getfield 192, 3) := by decide +kernel
theorem dX10_either_25 : decode cX10_either 25 = .ok (.iconst 1, 1) := by decide +kernel
theorem dX10_either_26 : decode cX10_either 26 = .ok (.iadd, 1) := by decide +kernel
theorem dX10_either_27 : decode cX10_either 27 = .ok (.putfield 192, 3) := by decide +kernel
theorem dX10_either_30 : decode cX10_either 30 = .ok (.aload_n 0, 1) := by decide +kernel
theorem dX10_either_31 : decode cX10_either 31 = .ok (.invokevirtual 241, 3) := by decide +kernel
theorem dX10_either_34 : decode cX10_either 34 = .ok (.aload_n 0, 1) := by decide +kernel
theorem dX10_either_35 : decode cX10_either 35 = .ok (.bipush 124, 2) := by decide +kernel
theorem dX10_either_37 : decode cX10_either 37 = .ok (.iconst 0, 1) := by decide +kernel
theorem dX10_either_38 : decode cX10_either 38 = .ok (.invokevirtual 211, 3) := by decide +kernel
theorem dX10_either_41 : decode cX10_either 41 = .ok (.goto (-37), 3) := by decide +kernel
theorem dX10_either_44 : decode cX10_either 44 = .ok (.return_, 1) := by decide +kernel
theorem dX10_line_0 : decode cX10_line 0 = .ok (.bipush 61, 2) := by decide +kernel
theorem dX10_line_2 : decode cX10_line 2 = .ok (.aload_n 0, 1) := by decide +kernel
theorem dX10_line_3 : decode cX10_line 3 = .ok (.getfield 58, 3) := by decide +kernel
theorem dX10_line_6 : decode cX10_line 6 = .ok (.iconst 1, 1) := by decide +kernel
theorem dX10_line_7 : decode cX10_line 7 = .ok (.iaload, 1) := by decide +kernel
theorem dX10_line_8 : decode cX10_line 8 = .ok (.iadd, 1) := by decide +kernel
theorem dX10_line_9 : decode cX10_line 9 = .ok (.istore_n 1, 1) := by decide +kernel
theorem dX10_line_10 : decode cX10_line 10 = .ok (.aload_n 0, 1) := by decide +kernel
theorem dX10_line_11 : decode cX10_line 11 = .ok (.getfield 61, 3) := by decide +kernel
theorem dX10_line_14 : decode cX10_line 14 = .ok (.iload_n 1, 1) := by decide +kernel
theorem dX10_line_15 : decode cX10_line 15 = .ok (.aload_n 0, 1) := by decide +kernel
theorem dX10_line_16 : decode cX10_line 16 = .ok (.getfield 198, 3) := by decide +kernel
theorem dX10_line_19 : decode cX10_line 19 = .ok (.i2s, 1) := by decide +kernel
theorem dX10_line_20 : decode cX10_line 20 = .ok (.sastore, 1) := by decide +kernel
theorem dX10_line_21 : decode cX10_line 21 = .ok (.aload_n 0, 1) := by decide +kernel
theorem dX10_line_22 : decode cX10_line 22 = .ok (.invokevirtual 226, 3) := by decide +kernel
theorem dX10_line_25 : decode cX10_line 25 = .ok (.aload_n 0, 1) := by decide +kernel
theorem dX10_line_26 : decode cX10_line 26 = .ok (.getfield 195, 3) := by decide +kernel
theorem dX10_line_29 : decode cX10_line 29 = .ok (.ifCond .ge 37, 3) := by decide +kernel
theorem dX10_line_32 : decode cX10_line 32 = .ok (.aload_n 0, 1) := by decide +kernel
theorem dX10_line_33 : decode cX10_line 33 = .ok (.invokevirtual 207, 3) := by decide +kernel
theorem dX10_line_36 : decode cX10_line 36 = .ok (.bipush 63, 2) := by decide +kernel
theorem dX10_line_38 : decode cX10_line 38 = .ok (.if_icmp .ne 28, 3) := by decide +kernel
theorem dX10_line_41 : decode cX10_line 41 = .ok (.aload_n 0, 1) := by decide +kernel
theorem dX10_line_42 : decode cX10_line 42 = .ok (.dup, 1) := by decide +kernel
theorem dX10_line_43 : decode cX10_line 43 = .ok (.getfield 192, 3) := by decide +kernel
theorem dX10_line_46 : decode cX10_line 46 = .ok (.iconst 1, 1) := by decide +kernel
theorem dX10_line_47 : decode cX10_line 47 = .ok (.iadd, 1) := by decide +kernel
theorem dX10_line_48 : decode cX10_line 48 = .ok (.putfield 192, 3) := by decide +kernel
theorem dX10_line_51 : decode cX10_line 51 = .ok (.aload_n 0, 1) := by decide +kernel
theorem dX10_line_52 : decode cX10_line 52 = .ok (.getfield 61, 3) := by decide +kernel
theorem dX10_line_55 : decode cX10_line 55 = .ok (.iload_n 1, 1) := by decide +kernel
theorem dX10_line_56 : decode cX10_line 56 = .ok (.aload_n 0, 1) := by decide +kernel
theorem dX10_line_57 : decode cX10_line 57 = .ok (.getfield 198, 3) := by decide +kernel
theorem dX10_line_60 : decode cX10_line 60 = .ok (.i2s, 1) := by decide +kernel
theorem dX10_line_61 : decode cX10_line 61 = .ok (.sastore, 1) := by decide +kernel
theorem dX10_line_62 : decode cX10_line 62 = .ok (.aload_n 0, 1) := by decide +kernel
theorem dX10_line_63 : decode cX10_line 63 = .ok (.invokevirtual 226, 3) := by decide +kernel
theorem dX10_line_66 : decode cX10_line 66 = .ok (.aload_n 0, 1) := by decide +kernel
theorem dX10_line_67 : decode cX10_line 67 = .ok (.getfield 65, 3) := by decide +kernel
theorem dX10_line_70 : decode cX10_line 70 = .ok (.iload_n 1, 1) := by decide +kernel
theorem dX10_line_71 : decode cX10_line 71 = .ok (.aload_n 0, 1) := by decide +kernel
theorem dX10_line_72 : decode cX10_line 72 = .ok (.getfield 198, 3) := by decide +kernel
theorem dX10_line_75 : decode cX10_line 75 = .ok (.i2s, 1) := by decide +kernel
theorem dX10_line_76 : decode cX10_line 76 = .ok (.sastore, 1) := by decide +kernel
theorem dX10_line_77 : decode cX10_line 77 = .ok (.aload_n 0, 1) := by decide +kernel
theorem dX10_line_78 : decode cX10_line 78 = .ok (.getfield 58, 3) := by decide +kernel
theorem dX10_line_81 : decode cX10_line 81 = .ok (.iconst 1, 1) := by decide +kernel
theorem dX10_line_82 : decode cX10_line 82 = .ok (.dup2, 1) := by decide +kernel
theorem dX10_line_83 : decode cX10_line 83 = .ok (.iaload, 1) := by decide +kernel
theorem dX10_line_84 : decode cX10_line 84 = .ok (.iconst 1, 1) := by decide +kernel
theorem dX10_line_85 : decode cX10_line 85 = .ok (.iadd, 1) := by decide +kernel
theorem dX10_line_86 : decode cX10_line 86 = .ok (.iastore, 1) := by decide +kernel
theorem dX10_line_87 : decode cX10_line 87 = .ok (.return_, 1) := by decide +kernel
theorem dX10_readText_0 : decode cX10_readText 0 = .ok (.aload_n 0, 1) := by decide +kernel
theorem dX10_readText_1 : decode cX10_readText 1 = .ok (.iconst 0, 1) := by decide +kernel
theorem dX10_readText_2 : decode cX10_readText 2 = .ok (.putfield 192, 3) := by decide +kernel
theorem dX10_readText_5 : decode cX10_readText 5 = .ok (.aload_n 0, 1) := by decide +kernel
theorem dX10_readText_6 : decode cX10_readText 6 = .ok (.iconst (-1), 1) := by decide +kernel
theorem dX10_readText_7 : decode cX10_readText 7 = .ok (.putfield 195, 3) := by decide +kernel
theorem dX10_readText_10 : decode cX10_readText 10 = .ok (.aload_n 0, 1) := by decide +kernel
theorem dX10_readText_11 : decode cX10_readText 11 = .ok (.iconst 0, 1) := by decide +kernel
theorem dX10_readText_12 : decode cX10_readText 12 = .ok (.putfield 201, 3) := by decide +kernel
theorem dX10_readText_15 : decode cX10_readText 15 = .ok (.aload_n 0, 1) := by decide +kernel
theorem dX10_readText_16 : decode cX10_readText 16 = .ok (.iconst 0, 1) := by decide +kernel
theorem dX10_readText_17 : decode cX10_readText 17 = .ok (.putfield 198, 3) := by decide +kernel
theorem dX10_readText_20 : decode cX10_readText 20 = .ok (.aload_n 0, 1) := by decide +kernel
theorem dX10_readText_21 : decode cX10_readText 21 = .ok (.getfield 58, 3) := by decide +kernel
theorem dX10_readText_24 : decode cX10_readText 24 = .ok (.iconst 1, 1) := by decide +kernel
theorem dX10_readText_25 : decode cX10_readText 25 = .ok (.iconst 0, 1) := by decide +kernel
theorem dX10_readText_26 : decode cX10_readText 26 = .ok (.iastore, 1) := by decide +kernel
theorem dX10_readText_27 : decode cX10_readText 27 = .ok (.aload_n 0, 1) := by decide +kernel
theorem dX10_readText_28 : decode cX10_readText 28 = .ok (.invokevirtual 244, 3) := by decide +kernel
theorem dX10_readText_31 : decode cX10_readText 31 = .ok (.aload_n 0, 1) := by decide +kernel
theorem dX10_readText_32 : decode cX10_readText 32 = .ok (.getfield 195, 3) := by decide +kernel
theorem dX10_readText_35 : decode cX10_readText 35 = .ok (.ifCond .ge 29, 3) := by decide +kernel
theorem dX10_readText_38 : decode cX10_readText 38 = .ok (.aload_n 0, 1) := by decide +kernel
theorem dX10_readText_39 : decode cX10_readText 39 = .ok (.invokevirtual 207, 3) := by decide +kernel
theorem dX10_readText_42 : decode cX10_readText 42 = .ok (.bipush 59, 2) := by decide +kernel
theorem dX10_readText_44 : decode cX10_readText 44 = .ok (.if_icmp .ne 20, 3) := by decide +kernel
theorem dX10_readText_47 : decode cX10_readText 47 = .ok (.aload_n 0, 1) := by decide +kernel
theorem dX10_readText_48 : decode cX10_readText 48 = .ok (.dup, 1) := by decide +kernel
theorem dX10_readText_49 : decode cX10_readText 49 = .ok (.getfield 192, 3) := by decide +kernel
theorem dX10_readText_52 : decode cX10_readText 52 = .ok (.iconst 1, 1) := by decide +kernel
theorem dX10_readText_53 : decode cX10_readText 53 = .ok (.iadd, 1) := by decide +kernel
theorem dX10_readText_54 : decode cX10_readText 54 = .ok (.putfield 192, 3) := by decide +kernel
theorem dX10_readText_57 : decode cX10_readText 57 = .ok (.aload_n 0, 1) := by decide +kernel
theorem dX10_readText_58 : decode cX10_readText 58 = .ok (.invokevirtual 244, 3) := by decide +kernel
theorem dX10_readText_61 : decode cX10_readText 61 = .ok (.goto (-30), 3) := by decide +kernel
theorem dX10_readText_64 : decode cX10_readText 64 = .ok (.aload_n 0, 1) := by decide +kernel
theorem dX10_readText_65 : decode cX10_readText 65 = .ok (.getfield 195, 3) := by decide +kernel
theorem dX10_readText_68 : decode cX10_readText 68 = .ok (.ifCond .ge 18, 3) := by decide +kernel
theorem dX10_readText_71 : decode cX10_readText 71 = .ok (.aload_n 0, 1) := by decide +kernel
theorem dX10_readText_72 : decode cX10_readText 72 = .ok (.getfield 192, 3) := by decide +kernel
theorem dX10_readText_75 : decode cX10_readText 75 = .ok (.aload_n 0, 1) := by decide +kernel
theorem dX10_readText_76 : decode cX10_readText 76 = .ok (.getfield 189, 3) := by decide +kernel
theorem dX10_readText_79 : decode cX10_readText 79 = .ok (.if_icmp .ge 7, 3) := by decide +kernel
theorem dX10_readText_82 : decode cX10_readText 82 = .ok (.aload_n 0, 1) := by decide +kernel
theorem dX10_readText_83 : decode cX10_readText 83 = .ok (.invokevirtual 204, 3) := by decide +kernel
theorem dX10_readText_86 : decode cX10_readText 86 = .ok (.aload_n 0, 1) := by decide +kernel
theorem dX10_readText_87 : decode cX10_readText 87 = .ok (.iconst 0, 1) := by decide +kernel
theorem dX10_readText_88 : decode cX10_readText 88 = .ok (.putfield 189, 3) := by decide +kernel
theorem dX10_readText_91 : decode cX10_readText 91 = .ok (.aload_n 0, 1) := by decide +kernel
theorem dX10_readText_92 : decode cX10_readText 92 = .ok (.getfield 195, 3) := by decide +kernel
theorem dX10_readText_95 : decode cX10_readText 95 = .ok (.ifCond .lt 8, 3) := by decide +kernel
theorem dX10_readText_98 : decode cX10_readText 98 = .ok (.aload_n 0, 1) := by decide +kernel
theorem dX10_readText_99 : decode cX10_readText 99 = .ok (.getfield 195, 3) := by decide +kernel
theorem dX10_readText_102 : decode cX10_readText 102 = .ok (.ireturn, 1) := by decide +kernel
theorem dX10_readText_103 : decode cX10_readText 103 = .ok (.iconst 0, 1) := by decide +kernel
theorem dX10_readText_104 : decode cX10_readText 104 = .ok (.istore_n 2, 1) := by decide +kernel
theorem dX10_readText_105 : decode cX10_readText 105 = .ok (.iload_n 2, 1) := by decide +kernel
theorem dX10_readText_106 : decode cX10_readText 106 = .ok (.aload_n 0, 1) := by decide +kernel
theorem dX10_readText_107 : decode cX10_readText 107 = .ok (.getfield 198, 3) := by decide +kernel
theorem dX10_readText_110 : decode cX10_readText 110 = .ok (.if_icmp .ge 53, 3) := by decide +kernel
theorem dX10_readText_113 : decode cX10_readText 113 = .ok (.aload_n 0, 1) := by decide +kernel
theorem dX10_readText_114 : decode cX10_readText 114 = .ok (.getfield 52, 3) := by decide +kernel
theorem dX10_readText_117 : decode cX10_readText 117 = .ok (.sipush 130, 3) := by decide +kernel
theorem dX10_readText_120 : decode cX10_readText 120 = .ok (.iload_n 1, 1) := by decide +kernel
theorem dX10_readText_121 : decode cX10_readText 121 = .ok (.imul, 1) := by decide +kernel
theorem dX10_readText_122 : decode cX10_readText 122 = .ok (.iload_n 2, 1) := by decide +kernel
theorem dX10_readText_123 : decode cX10_readText 123 = .ok (.iadd, 1) := by decide +kernel
theorem dX10_readText_124 : decode cX10_readText 124 = .ok (.aload_n 0, 1) := by decide +kernel
theorem dX10_readText_125 : decode cX10_readText 125 = .ok (.getfield 52, 3) := by decide +kernel
theorem dX10_readText_128 : decode cX10_readText 128 = .ok (.sipush 130, 3) := by decide +kernel
theorem dX10_readText_131 : decode cX10_readText 131 = .ok (.iload_n 2, 1) := by decide +kernel
theorem dX10_readText_132 : decode cX10_readText 132 = .ok (.iadd, 1) := by decide +kernel
theorem dX10_readText_133 : decode cX10_readText 133 = .ok (.baload, 1) := by decide +kernel
theorem dX10_readText_134 : decode cX10_readText 134 = .ok (.bastore, 1) := by decide +kernel
theorem dX10_readText_135 : decode cX10_readText 135 = .ok (.aload_n 0, 1) := by decide +kernel
theorem dX10_readText_136 : decode cX10_readText 136 = .ok (.getfield 55, 3) := by decide +kernel
theorem dX10_readText_139 : decode cX10_readText 139 = .ok (.sipush 130, 3) := by decide +kernel
theorem dX10_readText_142 : decode cX10_readText 142 = .ok (.iload_n 1, 1) := by decide +kernel
theorem dX10_readText_143 : decode cX10_readText 143 = .ok (.imul, 1) := by decide +kernel
theorem dX10_readText_144 : decode cX10_readText 144 = .ok (.iload_n 2, 1) := by decide +kernel
theorem dX10_readText_145 : decode cX10_readText 145 = .ok (.iadd, 1) := by decide +kernel
theorem dX10_readText_146 : decode cX10_readText 146 = .ok (.aload_n 0, 1) := by decide +kernel
theorem dX10_readText_147 : decode cX10_readText 147 = .ok (.getfield 55, 3) := by decide +kernel
theorem dX10_readText_150 : decode cX10_readText 150 = .ok (.sipush 130, 3) := by decide +kernel
theorem dX10_readText_153 : decode cX10_readText 153 = .ok (.iload_n 2, 1) := by decide +kernel
theorem dX10_readText_154 : decode cX10_readText 154 = .ok (.iadd, 1) := by decide +kernel
theorem dX10_readText_155 : decode cX10_readText 155 = .ok (.iaload, 1) := by decide +kernel
theorem dX10_readText_156 : decode cX10_readText 156 = .ok (.iastore, 1) := by decide +kernel
theorem dX10_readText_157 : decode cX10_readText 157 = .ok (.iinc 2 1, 3) := by decide +kernel
theorem dX10_readText_160 : decode cX10_readText 160 = .ok (.goto (-55), 3) := by decide +kernel
theorem dX10_readText_163 : decode cX10_readText 163 = .ok (.aload_n 0, 1) := by decide +kernel
theorem dX10_readText_164 : decode cX10_readText 164 = .ok (.getfield 58, 3) := by decide +kernel
theorem dX10_readText_167 : decode cX10_readText 167 = .ok (.iload_n 1, 1) := by decide +kernel
theorem dX10_readText_168 : decode cX10_readText 168 = .ok (.aload_n 0, 1) := by decide +kernel
theorem dX10_readText_169 : decode cX10_readText 169 = .ok (.getfield 58, 3) := by decide +kernel
theorem dX10_readText_172 : decode cX10_readText 172 = .ok (.iconst 1, 1) := by decide +kernel
theorem dX10_readText_173 : decode cX10_readText 173 = .ok (.iaload, 1) := by decide +kernel
theorem dX10_readText_174 : decode cX10_readText 174 = .ok (.iastore, 1) := by decide +kernel
theorem dX10_readText_175 : decode cX10_readText 175 = .ok (.iconst 0, 1) := by decide +kernel
theorem dX10_readText_176 : decode cX10_readText 176 = .ok (.istore_n 2, 1) := by decide +kernel
theorem dX10_readText_177 : decode cX10_readText 177 = .ok (.iload_n 2, 1) := by decide +kernel
theorem dX10_readText_178 : decode cX10_readText 178 = .ok (.aload_n 0, 1) := by decide +kernel
theorem dX10_readText_179 : decode cX10_readText 179 = .ok (.getfield 58, 3) := by decide +kernel
theorem dX10_readText_182 : decode cX10_readText 182 = .ok (.iload_n 1, 1) := by decide +kernel
theorem dX10_readText_183 : decode cX10_readText 183 = .ok (.iaload, 1) := by decide +kernel
theorem dX10_readText_184 : decode cX10_readText 184 = .ok (.if_icmp .ge 49, 3) := by decide +kernel
theorem dX10_readText_187 : decode cX10_readText 187 = .ok (.aload_n 0, 1) := by decide +kernel
theorem dX10_readText_188 : decode cX10_readText 188 = .ok (.getfield 61, 3) := by decide +kernel
theorem dX10_readText_191 : decode cX10_readText 191 = .ok (.bipush 61, 2) := by decide +kernel
theorem dX10_readText_193 : decode cX10_readText 193 = .ok (.iload_n 1, 1) := by decide +kernel
theorem dX10_readText_194 : decode cX10_readText 194 = .ok (.imul, 1) := by decide +kernel
theorem dX10_readText_195 : decode cX10_readText 195 = .ok (.iload_n 2, 1) := by decide +kernel
theorem dX10_readText_196 : decode cX10_readText 196 = .ok (.iadd, 1) := by decide +kernel
theorem dX10_readText_197 : decode cX10_readText 197 = .ok (.aload_n 0, 1) := by decide +kernel
theorem dX10_readText_198 : decode cX10_readText 198 = .ok (.getfield 61, 3) := by decide +kernel
theorem dX10_readText_201 : decode cX10_readText 201 = .ok (.bipush 61, 2) := by decide +kernel
theorem dX10_readText_203 : decode cX10_readText 203 = .ok (.iload_n 2, 1) := by decide +kernel
theorem dX10_readText_204 : decode cX10_readText 204 = .ok (.iadd, 1) := by decide +kernel
theorem dX10_readText_205 : decode cX10_readText 205 = .ok (.saload, 1) := by decide +kernel
theorem dX10_readText_206 : decode cX10_readText 206 = .ok (.sastore, 1) := by decide +kernel
theorem dX10_readText_207 : decode cX10_readText 207 = .ok (.aload_n 0, 1) := by decide +kernel
theorem dX10_readText_208 : decode cX10_readText 208 = .ok (.getfield 65, 3) := by decide +kernel
theorem dX10_readText_211 : decode cX10_readText 211 = .ok (.bipush 61, 2) := by decide +kernel
theorem dX10_readText_213 : decode cX10_readText 213 = .ok (.iload_n 1, 1) := by decide +kernel
theorem dX10_readText_214 : decode cX10_readText 214 = .ok (.imul, 1) := by decide +kernel
theorem dX10_readText_215 : decode cX10_readText 215 = .ok (.iload_n 2, 1) := by decide +kernel
theorem dX10_readText_216 : decode cX10_readText 216 = .ok (.iadd, 1) := by decide +kernel
theorem dX10_readText_217 : decode cX10_readText 217 = .ok (.aload_n 0, 1) := by decide +kernel
theorem dX10_readText_218 : decode cX10_readText 218 = .ok (.getfield 65, 3) := by decide +kernel
theorem dX10_readText_221 : decode cX10_readText 221 = .ok (.bipush 61, 2) := by decide +kernel
theorem dX10_readText_223 : decode cX10_readText 223 = .ok (.iload_n 2, 1) := by decide +kernel
theorem dX10_readText_224 : decode cX10_readText 224 = .ok (.iadd, 1) := by decide +kernel
theorem dX10_readText_225 : decode cX10_readText 225 = .ok (.saload, 1) := by decide +kernel
theorem dX10_readText_226 : decode cX10_readText 226 = .ok (.sastore, 1) := by decide +kernel
theorem dX10_readText_227 : decode cX10_readText 227 = .ok (.iinc 2 1, 3) := by decide +kernel
theorem dX10_readText_230 : decode cX10_readText 230 = .ok (.goto (-53), 3) := by decide +kernel
theorem dX10_readText_233 : decode cX10_readText 233 = .ok (.iconst (-1), 1) := by decide +kernel
theorem dX10_readText_234 : decode cX10_readText 234 = .ok (.ireturn, 1) := by decide +kernel
theorem dX10_twoOf_0 : decode cX10_twoOf 0 = .ok (.iload_n 0, 1) := by decide +kernel
theorem dX10_twoOf_1 : decode cX10_twoOf 1 = .ok (.tableswitch 217 37 62 #[153, 203, 217, 217, 217, 127, 119, 217, 123, 217, 131, 217, 217, 217, 217, 217, 217, 217, 217, 217, 217, 217, 217, 170, 181, 192], 119) := by decide +kernel
theorem dX10_twoOf_120 : decode cX10_twoOf 120 = .ok (.iload_n 1, 1) := by decide +kernel
theorem dX10_twoOf_121 : decode cX10_twoOf 121 = .ok (.iload_n 2, 1) := by decide +kernel
theorem dX10_twoOf_122 : decode cX10_twoOf 122 = .ok (.iadd, 1) := by decide +kernel
theorem dX10_twoOf_123 : decode cX10_twoOf 123 = .ok (.ireturn, 1) := by decide +kernel
theorem dX10_twoOf_124 : decode cX10_twoOf 124 = .ok (.iload_n 1, 1) := by decide +kernel
theorem dX10_twoOf_125 : decode cX10_twoOf 125 = .ok (.iload_n 2, 1) := by decide +kernel
theorem dX10_twoOf_126 : decode cX10_twoOf 126 = .ok (.isub, 1) := by decide +kernel
theorem dX10_twoOf_127 : decode cX10_twoOf 127 = .ok (.ireturn, 1) := by decide +kernel
theorem dX10_twoOf_128 : decode cX10_twoOf 128 = .ok (.iload_n 1, 1) := by decide +kernel
theorem dX10_twoOf_129 : decode cX10_twoOf 129 = .ok (.iload_n 2, 1) := by decide +kernel
theorem dX10_twoOf_130 : decode cX10_twoOf 130 = .ok (.imul, 1) := by decide +kernel
theorem dX10_twoOf_131 : decode cX10_twoOf 131 = .ok (.ireturn, 1) := by decide +kernel
theorem dX10_twoOf_132 : decode cX10_twoOf 132 = .ok (.iload_n 2, 1) := by decide +kernel
theorem dX10_twoOf_133 : decode cX10_twoOf 133 = .ok (.ifCond .ne 7, 3) := by decide +kernel
theorem dX10_twoOf_136 : decode cX10_twoOf 136 = .ok (.iconst 0, 1) := by decide +kernel
theorem dX10_twoOf_137 : decode cX10_twoOf 137 = .ok (.goto 16, 3) := by decide +kernel
theorem dX10_twoOf_140 : decode cX10_twoOf 140 = .ok (.iload_n 2, 1) := by decide +kernel
theorem dX10_twoOf_141 : decode cX10_twoOf 141 = .ok (.iconst (-1), 1) := by decide +kernel
theorem dX10_twoOf_142 : decode cX10_twoOf 142 = .ok (.if_icmp .ne 8, 3) := by decide +kernel
theorem dX10_twoOf_145 : decode cX10_twoOf 145 = .ok (.iload_n 1, 1) := by decide +kernel
theorem dX10_twoOf_146 : decode cX10_twoOf 146 = .ok (.ineg, 1) := by decide +kernel
theorem dX10_twoOf_147 : decode cX10_twoOf 147 = .ok (.goto 6, 3) := by decide +kernel
theorem dX10_twoOf_150 : decode cX10_twoOf 150 = .ok (.iload_n 1, 1) := by decide +kernel
theorem dX10_twoOf_151 : decode cX10_twoOf 151 = .ok (.iload_n 2, 1) := by decide +kernel
theorem dX10_twoOf_152 : decode cX10_twoOf 152 = .ok (.idiv, 1) := by decide +kernel
theorem dX10_twoOf_153 : decode cX10_twoOf 153 = .ok (.ireturn, 1) := by decide +kernel
theorem dX10_twoOf_154 : decode cX10_twoOf 154 = .ok (.iload_n 2, 1) := by decide +kernel
theorem dX10_twoOf_155 : decode cX10_twoOf 155 = .ok (.ifCond .eq 8, 3) := by decide +kernel
theorem dX10_twoOf_158 : decode cX10_twoOf 158 = .ok (.iload_n 2, 1) := by decide +kernel
theorem dX10_twoOf_159 : decode cX10_twoOf 159 = .ok (.iconst (-1), 1) := by decide +kernel
theorem dX10_twoOf_160 : decode cX10_twoOf 160 = .ok (.if_icmp .ne 7, 3) := by decide +kernel
theorem dX10_twoOf_163 : decode cX10_twoOf 163 = .ok (.iconst 0, 1) := by decide +kernel
theorem dX10_twoOf_164 : decode cX10_twoOf 164 = .ok (.goto 6, 3) := by decide +kernel
theorem dX10_twoOf_167 : decode cX10_twoOf 167 = .ok (.iload_n 1, 1) := by decide +kernel
theorem dX10_twoOf_168 : decode cX10_twoOf 168 = .ok (.iload_n 2, 1) := by decide +kernel
theorem dX10_twoOf_169 : decode cX10_twoOf 169 = .ok (.irem, 1) := by decide +kernel
theorem dX10_twoOf_170 : decode cX10_twoOf 170 = .ok (.ireturn, 1) := by decide +kernel
theorem dX10_twoOf_171 : decode cX10_twoOf 171 = .ok (.iload_n 1, 1) := by decide +kernel
theorem dX10_twoOf_172 : decode cX10_twoOf 172 = .ok (.iload_n 2, 1) := by decide +kernel
theorem dX10_twoOf_173 : decode cX10_twoOf 173 = .ok (.if_icmp .ge 7, 3) := by decide +kernel
theorem dX10_twoOf_176 : decode cX10_twoOf 176 = .ok (.iconst 1, 1) := by decide +kernel
theorem dX10_twoOf_177 : decode cX10_twoOf 177 = .ok (.goto 4, 3) := by decide +kernel
theorem dX10_twoOf_180 : decode cX10_twoOf 180 = .ok (.iconst 0, 1) := by decide +kernel
theorem dX10_twoOf_181 : decode cX10_twoOf 181 = .ok (.ireturn, 1) := by decide +kernel
theorem dX10_twoOf_182 : decode cX10_twoOf 182 = .ok (.iload_n 1, 1) := by decide +kernel
theorem dX10_twoOf_183 : decode cX10_twoOf 183 = .ok (.iload_n 2, 1) := by decide +kernel
theorem dX10_twoOf_184 : decode cX10_twoOf 184 = .ok (.if_icmp .ne 7, 3) := by decide +kernel
theorem dX10_twoOf_187 : decode cX10_twoOf 187 = .ok (.iconst 1, 1) := by decide +kernel
theorem dX10_twoOf_188 : decode cX10_twoOf 188 = .ok (.goto 4, 3) := by decide +kernel
theorem dX10_twoOf_191 : decode cX10_twoOf 191 = .ok (.iconst 0, 1) := by decide +kernel
theorem dX10_twoOf_192 : decode cX10_twoOf 192 = .ok (.ireturn, 1) := by decide +kernel
theorem dX10_twoOf_193 : decode cX10_twoOf 193 = .ok (.iload_n 1, 1) := by decide +kernel
theorem dX10_twoOf_194 : decode cX10_twoOf 194 = .ok (.iload_n 2, 1) := by decide +kernel
theorem dX10_twoOf_195 : decode cX10_twoOf 195 = .ok (.if_icmp .le 7, 3) := by decide +kernel
theorem dX10_twoOf_198 : decode cX10_twoOf 198 = .ok (.iconst 1, 1) := by decide +kernel
theorem dX10_twoOf_199 : decode cX10_twoOf 199 = .ok (.goto 4, 3) := by decide +kernel
theorem dX10_twoOf_202 : decode cX10_twoOf 202 = .ok (.iconst 0, 1) := by decide +kernel
theorem dX10_twoOf_203 : decode cX10_twoOf 203 = .ok (.ireturn, 1) := by decide +kernel
theorem dX10_twoOf_204 : decode cX10_twoOf 204 = .ok (.iload_n 1, 1) := by decide +kernel
theorem dX10_twoOf_205 : decode cX10_twoOf 205 = .ok (.ifCond .eq 11, 3) := by decide +kernel
theorem dX10_twoOf_208 : decode cX10_twoOf 208 = .ok (.iload_n 2, 1) := by decide +kernel
theorem dX10_twoOf_209 : decode cX10_twoOf 209 = .ok (.ifCond .eq 7, 3) := by decide +kernel
theorem dX10_twoOf_212 : decode cX10_twoOf 212 = .ok (.iconst 1, 1) := by decide +kernel
theorem dX10_twoOf_213 : decode cX10_twoOf 213 = .ok (.goto 4, 3) := by decide +kernel
theorem dX10_twoOf_216 : decode cX10_twoOf 216 = .ok (.iconst 0, 1) := by decide +kernel
theorem dX10_twoOf_217 : decode cX10_twoOf 217 = .ok (.ireturn, 1) := by decide +kernel
theorem dX10_twoOf_218 : decode cX10_twoOf 218 = .ok (.iload_n 1, 1) := by decide +kernel
theorem dX10_twoOf_219 : decode cX10_twoOf 219 = .ok (.ifCond .ne 7, 3) := by decide +kernel
theorem dX10_twoOf_222 : decode cX10_twoOf 222 = .ok (.iload_n 2, 1) := by decide +kernel
theorem dX10_twoOf_223 : decode cX10_twoOf 223 = .ok (.ifCond .eq 7, 3) := by decide +kernel
theorem dX10_twoOf_226 : decode cX10_twoOf 226 = .ok (.iconst 1, 1) := by decide +kernel
theorem dX10_twoOf_227 : decode cX10_twoOf 227 = .ok (.goto 4, 3) := by decide +kernel
theorem dX10_twoOf_230 : decode cX10_twoOf 230 = .ok (.iconst 0, 1) := by decide +kernel
theorem dX10_twoOf_231 : decode cX10_twoOf 231 = .ok (.ireturn, 1) := by decide +kernel
theorem dX10_worked_0 : decode cX10_worked 0 = .ok (.iconst 0, 1) := by decide +kernel
theorem dX10_worked_1 : decode cX10_worked 1 = .ok (.istore 4, 2) := by decide +kernel
theorem dX10_worked_3 : decode cX10_worked 3 = .ok (.sipush 130, 3) := by decide +kernel
theorem dX10_worked_6 : decode cX10_worked 6 = .ok (.iload_n 1, 1) := by decide +kernel
theorem dX10_worked_7 : decode cX10_worked 7 = .ok (.imul, 1) := by decide +kernel
theorem dX10_worked_8 : decode cX10_worked 8 = .ok (.iload_n 2, 1) := by decide +kernel
theorem dX10_worked_9 : decode cX10_worked 9 = .ok (.iadd, 1) := by decide +kernel
theorem dX10_worked_10 : decode cX10_worked 10 = .ok (.istore 5, 2) := by decide +kernel
theorem dX10_worked_12 : decode cX10_worked 12 = .ok (.iload 5, 2) := by decide +kernel
theorem dX10_worked_14 : decode cX10_worked 14 = .ok (.sipush 130, 3) := by decide +kernel
theorem dX10_worked_17 : decode cX10_worked 17 = .ok (.iload_n 1, 1) := by decide +kernel
theorem dX10_worked_18 : decode cX10_worked 18 = .ok (.imul, 1) := by decide +kernel
theorem dX10_worked_19 : decode cX10_worked 19 = .ok (.iload_n 3, 1) := by decide +kernel
theorem dX10_worked_20 : decode cX10_worked 20 = .ok (.iadd, 1) := by decide +kernel
theorem dX10_worked_21 : decode cX10_worked 21 = .ok (.if_icmp .ge 167, 3) := by decide +kernel
theorem dX10_worked_24 : decode cX10_worked 24 = .ok (.aload_n 0, 1) := by decide +kernel
theorem dX10_worked_25 : decode cX10_worked 25 = .ok (.getfield 52, 3) := by decide +kernel
theorem dX10_worked_28 : decode cX10_worked 28 = .ok (.iload 5, 2) := by decide +kernel
theorem dX10_worked_30 : decode cX10_worked 30 = .ok (.baload, 1) := by decide +kernel
theorem dX10_worked_31 : decode cX10_worked 31 = .ok (.istore 6, 2) := by decide +kernel
theorem dX10_worked_33 : decode cX10_worked 33 = .ok (.iload 6, 2) := by decide +kernel
theorem dX10_worked_35 : decode cX10_worked 35 = .ok (.iconst 1, 1) := by decide +kernel
theorem dX10_worked_36 : decode cX10_worked 36 = .ok (.if_icmp .eq 9, 3) := by decide +kernel
theorem dX10_worked_39 : decode cX10_worked 39 = .ok (.iload 6, 2) := by decide +kernel
theorem dX10_worked_41 : decode cX10_worked 41 = .ok (.iconst 2, 1) := by decide +kernel
theorem dX10_worked_42 : decode cX10_worked 42 = .ok (.if_icmp .ne 44, 3) := by decide +kernel
theorem dX10_worked_45 : decode cX10_worked 45 = .ok (.aload_n 0, 1) := by decide +kernel
theorem dX10_worked_46 : decode cX10_worked 46 = .ok (.getfield 71, 3) := by decide +kernel
theorem dX10_worked_49 : decode cX10_worked 49 = .ok (.iload 4, 2) := by decide +kernel
theorem dX10_worked_51 : decode cX10_worked 51 = .ok (.iload 6, 2) := by decide +kernel
theorem dX10_worked_53 : decode cX10_worked 53 = .ok (.iconst 1, 1) := by decide +kernel
theorem dX10_worked_54 : decode cX10_worked 54 = .ok (.if_icmp .ne 13, 3) := by decide +kernel
theorem dX10_worked_57 : decode cX10_worked 57 = .ok (.aload_n 0, 1) := by decide +kernel
theorem dX10_worked_58 : decode cX10_worked 58 = .ok (.getfield 55, 3) := by decide +kernel
theorem dX10_worked_61 : decode cX10_worked 61 = .ok (.iload 5, 2) := by decide +kernel
theorem dX10_worked_63 : decode cX10_worked 63 = .ok (.iaload, 1) := by decide +kernel
theorem dX10_worked_64 : decode cX10_worked 64 = .ok (.goto 15, 3) := by decide +kernel
theorem dX10_worked_67 : decode cX10_worked 67 = .ok (.aload_n 0, 1) := by decide +kernel
theorem dX10_worked_68 : decode cX10_worked 68 = .ok (.getfield 68, 3) := by decide +kernel
theorem dX10_worked_71 : decode cX10_worked 71 = .ok (.aload_n 0, 1) := by decide +kernel
theorem dX10_worked_72 : decode cX10_worked 72 = .ok (.getfield 55, 3) := by decide +kernel
theorem dX10_worked_75 : decode cX10_worked 75 = .ok (.iload 5, 2) := by decide +kernel
theorem dX10_worked_77 : decode cX10_worked 77 = .ok (.iaload, 1) := by decide +kernel
theorem dX10_worked_78 : decode cX10_worked 78 = .ok (.iaload, 1) := by decide +kernel
theorem dX10_worked_79 : decode cX10_worked 79 = .ok (.iastore, 1) := by decide +kernel
theorem dX10_worked_80 : decode cX10_worked 80 = .ok (.iinc 4 1, 3) := by decide +kernel
theorem dX10_worked_83 : decode cX10_worked 83 = .ok (.goto 99, 3) := by decide +kernel
theorem dX10_worked_86 : decode cX10_worked 86 = .ok (.iload 6, 2) := by decide +kernel
theorem dX10_worked_88 : decode cX10_worked 88 = .ok (.iconst 3, 1) := by decide +kernel
theorem dX10_worked_89 : decode cX10_worked 89 = .ok (.if_icmp .ne 32, 3) := by decide +kernel
theorem dX10_worked_92 : decode cX10_worked 92 = .ok (.aload_n 0, 1) := by decide +kernel
theorem dX10_worked_93 : decode cX10_worked 93 = .ok (.getfield 71, 3) := by decide +kernel
theorem dX10_worked_96 : decode cX10_worked 96 = .ok (.iload 4, 2) := by decide +kernel
theorem dX10_worked_98 : decode cX10_worked 98 = .ok (.iconst 1, 1) := by decide +kernel
theorem dX10_worked_99 : decode cX10_worked 99 = .ok (.isub, 1) := by decide +kernel
theorem dX10_worked_100 : decode cX10_worked 100 = .ok (.aload_n 0, 1) := by decide +kernel
theorem dX10_worked_101 : decode cX10_worked 101 = .ok (.getfield 71, 3) := by decide +kernel
theorem dX10_worked_104 : decode cX10_worked 104 = .ok (.iload 4, 2) := by decide +kernel
theorem dX10_worked_106 : decode cX10_worked 106 = .ok (.iconst 1, 1) := by decide +kernel
theorem dX10_worked_107 : decode cX10_worked 107 = .ok (.isub, 1) := by decide +kernel
theorem dX10_worked_108 : decode cX10_worked 108 = .ok (.iaload, 1) := by decide +kernel
theorem dX10_worked_109 : decode cX10_worked 109 = .ok (.ifCond .ne 7, 3) := by decide +kernel
theorem dX10_worked_112 : decode cX10_worked 112 = .ok (.iconst 1, 1) := by decide +kernel
theorem dX10_worked_113 : decode cX10_worked 113 = .ok (.goto 4, 3) := by decide +kernel
theorem dX10_worked_116 : decode cX10_worked 116 = .ok (.iconst 0, 1) := by decide +kernel
theorem dX10_worked_117 : decode cX10_worked 117 = .ok (.iastore, 1) := by decide +kernel
theorem dX10_worked_118 : decode cX10_worked 118 = .ok (.goto 64, 3) := by decide +kernel
theorem dX10_worked_121 : decode cX10_worked 121 = .ok (.iload 6, 2) := by decide +kernel
theorem dX10_worked_123 : decode cX10_worked 123 = .ok (.iconst 4, 1) := by decide +kernel
theorem dX10_worked_124 : decode cX10_worked 124 = .ok (.if_icmp .ne 25, 3) := by decide +kernel
theorem dX10_worked_127 : decode cX10_worked 127 = .ok (.aload_n 0, 1) := by decide +kernel
theorem dX10_worked_128 : decode cX10_worked 128 = .ok (.getfield 71, 3) := by decide +kernel
theorem dX10_worked_131 : decode cX10_worked 131 = .ok (.iload 4, 2) := by decide +kernel
theorem dX10_worked_133 : decode cX10_worked 133 = .ok (.iconst 1, 1) := by decide +kernel
theorem dX10_worked_134 : decode cX10_worked 134 = .ok (.isub, 1) := by decide +kernel
theorem dX10_worked_135 : decode cX10_worked 135 = .ok (.aload_n 0, 1) := by decide +kernel
theorem dX10_worked_136 : decode cX10_worked 136 = .ok (.getfield 71, 3) := by decide +kernel
theorem dX10_worked_139 : decode cX10_worked 139 = .ok (.iload 4, 2) := by decide +kernel
theorem dX10_worked_141 : decode cX10_worked 141 = .ok (.iconst 1, 1) := by decide +kernel
theorem dX10_worked_142 : decode cX10_worked 142 = .ok (.isub, 1) := by decide +kernel
theorem dX10_worked_143 : decode cX10_worked 143 = .ok (.iaload, 1) := by decide +kernel
theorem dX10_worked_144 : decode cX10_worked 144 = .ok (.ineg, 1) := by decide +kernel
theorem dX10_worked_145 : decode cX10_worked 145 = .ok (.iastore, 1) := by decide +kernel
theorem dX10_worked_146 : decode cX10_worked 146 = .ok (.goto 36, 3) := by decide +kernel
theorem dX10_worked_149 : decode cX10_worked 149 = .ok (.iinc 4 (-1), 3) := by decide +kernel
theorem dX10_worked_152 : decode cX10_worked 152 = .ok (.aload_n 0, 1) := by decide +kernel
theorem dX10_worked_153 : decode cX10_worked 153 = .ok (.getfield 71, 3) := by decide +kernel
theorem dX10_worked_156 : decode cX10_worked 156 = .ok (.iload 4, 2) := by decide +kernel
theorem dX10_worked_158 : decode cX10_worked 158 = .ok (.iconst 1, 1) := by decide +kernel
theorem dX10_worked_159 : decode cX10_worked 159 = .ok (.isub, 1) := by decide +kernel
theorem dX10_worked_160 : decode cX10_worked 160 = .ok (.iload 6, 2) := by decide +kernel
theorem dX10_worked_162 : decode cX10_worked 162 = .ok (.aload_n 0, 1) := by decide +kernel
theorem dX10_worked_163 : decode cX10_worked 163 = .ok (.getfield 71, 3) := by decide +kernel
theorem dX10_worked_166 : decode cX10_worked 166 = .ok (.iload 4, 2) := by decide +kernel
theorem dX10_worked_168 : decode cX10_worked 168 = .ok (.iconst 1, 1) := by decide +kernel
theorem dX10_worked_169 : decode cX10_worked 169 = .ok (.isub, 1) := by decide +kernel
theorem dX10_worked_170 : decode cX10_worked 170 = .ok (.iaload, 1) := by decide +kernel
theorem dX10_worked_171 : decode cX10_worked 171 = .ok (.aload_n 0, 1) := by decide +kernel
theorem dX10_worked_172 : decode cX10_worked 172 = .ok (.getfield 71, 3) := by decide +kernel
theorem dX10_worked_175 : decode cX10_worked 175 = .ok (.iload 4, 2) := by decide +kernel
theorem dX10_worked_177 : decode cX10_worked 177 = .ok (.iaload, 1) := by decide +kernel
theorem dX10_worked_178 : decode cX10_worked 178 = .ok (.invokestatic 247, 3) := by decide +kernel
theorem dX10_worked_181 : decode cX10_worked 181 = .ok (.iastore, 1) := by decide +kernel
theorem dX10_worked_182 : decode cX10_worked 182 = .ok (.iinc 5 1, 3) := by decide +kernel
theorem dX10_worked_185 : decode cX10_worked 185 = .ok (.goto (-173), 3) := by decide +kernel
theorem dX10_worked_188 : decode cX10_worked 188 = .ok (.aload_n 0, 1) := by decide +kernel
theorem dX10_worked_189 : decode cX10_worked 189 = .ok (.getfield 71, 3) := by decide +kernel
theorem dX10_worked_192 : decode cX10_worked 192 = .ok (.iconst 0, 1) := by decide +kernel
theorem dX10_worked_193 : decode cX10_worked 193 = .ok (.iaload, 1) := by decide +kernel
theorem dX10_worked_194 : decode cX10_worked 194 = .ok (.ireturn, 1) := by decide +kernel
theorem dX10_gives_0 : decode cX10_gives 0 = .ok (.iconst 0, 1) := by decide +kernel
theorem dX10_gives_1 : decode cX10_gives 1 = .ok (.istore_n 2, 1) := by decide +kernel
theorem dX10_gives_2 : decode cX10_gives 2 = .ok (.bipush 61, 2) := by decide +kernel
theorem dX10_gives_4 : decode cX10_gives 4 = .ok (.iload_n 1, 1) := by decide +kernel
theorem dX10_gives_5 : decode cX10_gives 5 = .ok (.imul, 1) := by decide +kernel
theorem dX10_gives_6 : decode cX10_gives 6 = .ok (.istore_n 3, 1) := by decide +kernel
theorem dX10_gives_7 : decode cX10_gives 7 = .ok (.iload_n 3, 1) := by decide +kernel
theorem dX10_gives_8 : decode cX10_gives 8 = .ok (.bipush 61, 2) := by decide +kernel
theorem dX10_gives_10 : decode cX10_gives 10 = .ok (.iload_n 1, 1) := by decide +kernel
theorem dX10_gives_11 : decode cX10_gives 11 = .ok (.imul, 1) := by decide +kernel
theorem dX10_gives_12 : decode cX10_gives 12 = .ok (.aload_n 0, 1) := by decide +kernel
theorem dX10_gives_13 : decode cX10_gives 13 = .ok (.getfield 58, 3) := by decide +kernel
theorem dX10_gives_16 : decode cX10_gives 16 = .ok (.iload_n 1, 1) := by decide +kernel
theorem dX10_gives_17 : decode cX10_gives 17 = .ok (.iaload, 1) := by decide +kernel
theorem dX10_gives_18 : decode cX10_gives 18 = .ok (.iadd, 1) := by decide +kernel
theorem dX10_gives_19 : decode cX10_gives 19 = .ok (.if_icmp .ge 59, 3) := by decide +kernel
theorem dX10_gives_22 : decode cX10_gives 22 = .ok (.aload_n 0, 1) := by decide +kernel
theorem dX10_gives_23 : decode cX10_gives 23 = .ok (.getfield 61, 3) := by decide +kernel
theorem dX10_gives_26 : decode cX10_gives 26 = .ok (.iload_n 3, 1) := by decide +kernel
theorem dX10_gives_27 : decode cX10_gives 27 = .ok (.saload, 1) := by decide +kernel
theorem dX10_gives_28 : decode cX10_gives 28 = .ok (.iload_n 2, 1) := by decide +kernel
theorem dX10_gives_29 : decode cX10_gives 29 = .ok (.if_icmp .eq 18, 3) := by decide +kernel
theorem dX10_gives_32 : decode cX10_gives 32 = .ok (.aload_n 0, 1) := by decide +kernel
theorem dX10_gives_33 : decode cX10_gives 33 = .ok (.iload_n 1, 1) := by decide +kernel
theorem dX10_gives_34 : decode cX10_gives 34 = .ok (.iload_n 2, 1) := by decide +kernel
theorem dX10_gives_35 : decode cX10_gives 35 = .ok (.aload_n 0, 1) := by decide +kernel
theorem dX10_gives_36 : decode cX10_gives 36 = .ok (.getfield 61, 3) := by decide +kernel
theorem dX10_gives_39 : decode cX10_gives 39 = .ok (.iload_n 3, 1) := by decide +kernel
theorem dX10_gives_40 : decode cX10_gives 40 = .ok (.saload, 1) := by decide +kernel
theorem dX10_gives_41 : decode cX10_gives 41 = .ok (.invokevirtual 250, 3) := by decide +kernel
theorem dX10_gives_44 : decode cX10_gives 44 = .ok (.ifCond .eq 21, 3) := by decide +kernel
theorem dX10_gives_47 : decode cX10_gives 47 = .ok (.aload_n 0, 1) := by decide +kernel
theorem dX10_gives_48 : decode cX10_gives 48 = .ok (.iload_n 1, 1) := by decide +kernel
theorem dX10_gives_49 : decode cX10_gives 49 = .ok (.aload_n 0, 1) := by decide +kernel
theorem dX10_gives_50 : decode cX10_gives 50 = .ok (.getfield 61, 3) := by decide +kernel
theorem dX10_gives_53 : decode cX10_gives 53 = .ok (.iload_n 3, 1) := by decide +kernel
theorem dX10_gives_54 : decode cX10_gives 54 = .ok (.saload, 1) := by decide +kernel
theorem dX10_gives_55 : decode cX10_gives 55 = .ok (.aload_n 0, 1) := by decide +kernel
theorem dX10_gives_56 : decode cX10_gives 56 = .ok (.getfield 65, 3) := by decide +kernel
theorem dX10_gives_59 : decode cX10_gives 59 = .ok (.iload_n 3, 1) := by decide +kernel
theorem dX10_gives_60 : decode cX10_gives 60 = .ok (.saload, 1) := by decide +kernel
theorem dX10_gives_61 : decode cX10_gives 61 = .ok (.invokevirtual 250, 3) := by decide +kernel
theorem dX10_gives_64 : decode cX10_gives 64 = .ok (.ireturn, 1) := by decide +kernel
theorem dX10_gives_65 : decode cX10_gives 65 = .ok (.aload_n 0, 1) := by decide +kernel
theorem dX10_gives_66 : decode cX10_gives 66 = .ok (.getfield 65, 3) := by decide +kernel
theorem dX10_gives_69 : decode cX10_gives 69 = .ok (.iload_n 3, 1) := by decide +kernel
theorem dX10_gives_70 : decode cX10_gives 70 = .ok (.saload, 1) := by decide +kernel
theorem dX10_gives_71 : decode cX10_gives 71 = .ok (.istore_n 2, 1) := by decide +kernel
theorem dX10_gives_72 : decode cX10_gives 72 = .ok (.iinc 3 1, 3) := by decide +kernel
theorem dX10_gives_75 : decode cX10_gives 75 = .ok (.goto (-68), 3) := by decide +kernel
theorem dX10_gives_78 : decode cX10_gives 78 = .ok (.iconst 0, 1) := by decide +kernel
theorem dX10_gives_79 : decode cX10_gives 79 = .ok (.ireturn, 1) := by decide +kernel
theorem dX10_law_0 : decode cX10_law 0 = .ok (.aload_n 0, 1) := by decide +kernel
theorem dX10_law_1 : decode cX10_law 1 = .ok (.iconst 0, 1) := by decide +kernel
theorem dX10_law_2 : decode cX10_law 2 = .ok (.invokevirtual 253, 3) := by decide +kernel
theorem dX10_law_5 : decode cX10_law 5 = .ok (.istore_n 1, 1) := by decide +kernel
theorem dX10_law_6 : decode cX10_law 6 = .ok (.iload_n 1, 1) := by decide +kernel
theorem dX10_law_7 : decode cX10_law 7 = .ok (.ifCond .lt 8, 3) := by decide +kernel
theorem dX10_law_10 : decode cX10_law 10 = .ok (.bipush (-100), 2) := by decide +kernel
theorem dX10_law_12 : decode cX10_law 12 = .ok (.iload_n 1, 1) := by decide +kernel
theorem dX10_law_13 : decode cX10_law 13 = .ok (.isub, 1) := by decide +kernel
theorem dX10_law_14 : decode cX10_law 14 = .ok (.ireturn, 1) := by decide +kernel
theorem dX10_law_15 : decode cX10_law 15 = .ok (.aload_n 0, 1) := by decide +kernel
theorem dX10_law_16 : decode cX10_law 16 = .ok (.iconst 1, 1) := by decide +kernel
theorem dX10_law_17 : decode cX10_law 17 = .ok (.putfield 256, 3) := by decide +kernel
theorem dX10_law_20 : decode cX10_law 20 = .ok (.iconst 1, 1) := by decide +kernel
theorem dX10_law_21 : decode cX10_law 21 = .ok (.ireturn, 1) := by decide +kernel
theorem dX10_priceIn_0 : decode cX10_priceIn 0 = .ok (.aload_n 0, 1) := by decide +kernel
theorem dX10_priceIn_1 : decode cX10_priceIn 1 = .ok (.getfield 33, 3) := by decide +kernel
theorem dX10_priceIn_4 : decode cX10_priceIn 4 = .ok (.iconst 0, 1) := by decide +kernel
theorem dX10_priceIn_5 : decode cX10_priceIn 5 = .ok (.iaload, 1) := by decide +kernel
theorem dX10_priceIn_6 : decode cX10_priceIn 6 = .ok (.iconst 1, 1) := by decide +kernel
theorem dX10_priceIn_7 : decode cX10_priceIn 7 = .ok (.if_icmp .ne 14, 3) := by decide +kernel
theorem dX10_priceIn_10 : decode cX10_priceIn 10 = .ok (.aload_n 0, 1) := by decide +kernel
theorem dX10_priceIn_11 : decode cX10_priceIn 11 = .ok (.getfield 9, 3) := by decide +kernel
theorem dX10_priceIn_14 : decode cX10_priceIn 14 = .ok (.iload_n 1, 1) := by decide +kernel
theorem dX10_priceIn_15 : decode cX10_priceIn 15 = .ok (.iaload, 1) := by decide +kernel
theorem dX10_priceIn_16 : decode cX10_priceIn 16 = .ok (.iconst 2, 1) := by decide +kernel
theorem dX10_priceIn_17 : decode cX10_priceIn 17 = .ok (.idiv, 1) := by decide +kernel
theorem dX10_priceIn_18 : decode cX10_priceIn 18 = .ok (.goto 9, 3) := by decide +kernel
theorem dX10_priceIn_21 : decode cX10_priceIn 21 = .ok (.aload_n 0, 1) := by decide +kernel
theorem dX10_priceIn_22 : decode cX10_priceIn 22 = .ok (.getfield 9, 3) := by decide +kernel
theorem dX10_priceIn_25 : decode cX10_priceIn 25 = .ok (.iload_n 1, 1) := by decide +kernel
theorem dX10_priceIn_26 : decode cX10_priceIn 26 = .ok (.iaload, 1) := by decide +kernel
theorem dX10_priceIn_27 : decode cX10_priceIn 27 = .ok (.istore 4, 2) := by decide +kernel
theorem dX10_priceIn_29 : decode cX10_priceIn 29 = .ok (.aload_n 0, 1) := by decide +kernel
theorem dX10_priceIn_30 : decode cX10_priceIn 30 = .ok (.getfield 256, 3) := by decide +kernel
theorem dX10_priceIn_33 : decode cX10_priceIn 33 = .ok (.ifCond .eq 67, 3) := by decide +kernel
theorem dX10_priceIn_36 : decode cX10_priceIn 36 = .ok (.aload_n 0, 1) := by decide +kernel
theorem dX10_priceIn_37 : decode cX10_priceIn 37 = .ok (.getfield 68, 3) := by decide +kernel
theorem dX10_priceIn_40 : decode cX10_priceIn 40 = .ok (.iconst 0, 1) := by decide +kernel
theorem dX10_priceIn_41 : decode cX10_priceIn 41 = .ok (.aload_n 0, 1) := by decide +kernel
theorem dX10_priceIn_42 : decode cX10_priceIn 42 = .ok (.getfield 9, 3) := by decide +kernel
theorem dX10_priceIn_45 : decode cX10_priceIn 45 = .ok (.iload_n 1, 1) := by decide +kernel
theorem dX10_priceIn_46 : decode cX10_priceIn 46 = .ok (.iaload, 1) := by decide +kernel
theorem dX10_priceIn_47 : decode cX10_priceIn 47 = .ok (.iastore, 1) := by decide +kernel
theorem dX10_priceIn_48 : decode cX10_priceIn 48 = .ok (.aload_n 0, 1) := by decide +kernel
theorem dX10_priceIn_49 : decode cX10_priceIn 49 = .ok (.getfield 68, 3) := by decide +kernel
theorem dX10_priceIn_52 : decode cX10_priceIn 52 = .ok (.iconst 1, 1) := by decide +kernel
theorem dX10_priceIn_53 : decode cX10_priceIn 53 = .ok (.aload_n 0, 1) := by decide +kernel
theorem dX10_priceIn_54 : decode cX10_priceIn 54 = .ok (.getfield 18, 3) := by decide +kernel
theorem dX10_priceIn_57 : decode cX10_priceIn 57 = .ok (.iload_n 1, 1) := by decide +kernel
theorem dX10_priceIn_58 : decode cX10_priceIn 58 = .ok (.iaload, 1) := by decide +kernel
theorem dX10_priceIn_59 : decode cX10_priceIn 59 = .ok (.iastore, 1) := by decide +kernel
theorem dX10_priceIn_60 : decode cX10_priceIn 60 = .ok (.aload_n 0, 1) := by decide +kernel
theorem dX10_priceIn_61 : decode cX10_priceIn 61 = .ok (.getfield 68, 3) := by decide +kernel
theorem dX10_priceIn_64 : decode cX10_priceIn 64 = .ok (.iconst 2, 1) := by decide +kernel
theorem dX10_priceIn_65 : decode cX10_priceIn 65 = .ok (.iload_n 2, 1) := by decide +kernel
theorem dX10_priceIn_66 : decode cX10_priceIn 66 = .ok (.iastore, 1) := by decide +kernel
theorem dX10_priceIn_67 : decode cX10_priceIn 67 = .ok (.aload_n 0, 1) := by decide +kernel
theorem dX10_priceIn_68 : decode cX10_priceIn 68 = .ok (.getfield 68, 3) := by decide +kernel
theorem dX10_priceIn_71 : decode cX10_priceIn 71 = .ok (.iconst 3, 1) := by decide +kernel
theorem dX10_priceIn_72 : decode cX10_priceIn 72 = .ok (.iload_n 3, 1) := by decide +kernel
theorem dX10_priceIn_73 : decode cX10_priceIn 73 = .ok (.iastore, 1) := by decide +kernel
theorem dX10_priceIn_74 : decode cX10_priceIn 74 = .ok (.aload_n 0, 1) := by decide +kernel
theorem dX10_priceIn_75 : decode cX10_priceIn 75 = .ok (.getfield 68, 3) := by decide +kernel
theorem dX10_priceIn_78 : decode cX10_priceIn 78 = .ok (.iconst 4, 1) := by decide +kernel
theorem dX10_priceIn_79 : decode cX10_priceIn 79 = .ok (.aload_n 0, 1) := by decide +kernel
theorem dX10_priceIn_80 : decode cX10_priceIn 80 = .ok (.getfield 33, 3) := by decide +kernel
theorem dX10_priceIn_83 : decode cX10_priceIn 83 = .ok (.iconst 0, 1) := by decide +kernel
theorem dX10_priceIn_84 : decode cX10_priceIn 84 = .ok (.iaload, 1) := by decide +kernel
theorem dX10_priceIn_85 : decode cX10_priceIn 85 = .ok (.iastore, 1) := by decide +kernel
theorem dX10_priceIn_86 : decode cX10_priceIn 86 = .ok (.aload_n 0, 1) := by decide +kernel
theorem dX10_priceIn_87 : decode cX10_priceIn 87 = .ok (.getfield 68, 3) := by decide +kernel
theorem dX10_priceIn_90 : decode cX10_priceIn 90 = .ok (.iconst 5, 1) := by decide +kernel
theorem dX10_priceIn_91 : decode cX10_priceIn 91 = .ok (.iload_n 1, 1) := by decide +kernel
theorem dX10_priceIn_92 : decode cX10_priceIn 92 = .ok (.iastore, 1) := by decide +kernel
theorem dX10_priceIn_93 : decode cX10_priceIn 93 = .ok (.aload_n 0, 1) := by decide +kernel
theorem dX10_priceIn_94 : decode cX10_priceIn 94 = .ok (.iconst 0, 1) := by decide +kernel
theorem dX10_priceIn_95 : decode cX10_priceIn 95 = .ok (.invokevirtual 260, 3) := by decide +kernel
theorem dX10_priceIn_98 : decode cX10_priceIn 98 = .ok (.istore 4, 2) := by decide +kernel
theorem dX10_priceIn_100 : decode cX10_priceIn 100 = .ok (.iload 4, 2) := by decide +kernel
theorem dX10_priceIn_102 : decode cX10_priceIn 102 = .ok (.ifCond .ge 7, 3) := by decide +kernel
theorem dX10_priceIn_105 : decode cX10_priceIn 105 = .ok (.iconst 0, 1) := by decide +kernel
theorem dX10_priceIn_106 : decode cX10_priceIn 106 = .ok (.goto 17, 3) := by decide +kernel
theorem dX10_priceIn_109 : decode cX10_priceIn 109 = .ok (.iload 4, 2) := by decide +kernel
theorem dX10_priceIn_111 : decode cX10_priceIn 111 = .ok (.bipush 99, 2) := by decide +kernel
theorem dX10_priceIn_113 : decode cX10_priceIn 113 = .ok (.if_icmp .le 8, 3) := by decide +kernel
theorem dX10_priceIn_116 : decode cX10_priceIn 116 = .ok (.bipush 99, 2) := by decide +kernel
theorem dX10_priceIn_118 : decode cX10_priceIn 118 = .ok (.goto 5, 3) := by decide +kernel
theorem dX10_priceIn_121 : decode cX10_priceIn 121 = .ok (.iload 4, 2) := by decide +kernel
theorem dX10_priceIn_123 : decode cX10_priceIn 123 = .ok (.ireturn, 1) := by decide +kernel
theorem dX10_price_0 : decode cX10_price 0 = .ok (.aload_n 0, 1) := by decide +kernel
theorem dX10_price_1 : decode cX10_price 1 = .ok (.iload_n 1, 1) := by decide +kernel
theorem dX10_price_2 : decode cX10_price 2 = .ok (.invokevirtual 173, 3) := by decide +kernel
theorem dX10_price_5 : decode cX10_price 5 = .ok (.ifCond .eq 40, 3) := by decide +kernel
theorem dX10_price_8 : decode cX10_price 8 = .ok (.iload_n 2, 1) := by decide +kernel
theorem dX10_price_9 : decode cX10_price 9 = .ok (.ifCond .lt 36, 3) := by decide +kernel
theorem dX10_price_12 : decode cX10_price 12 = .ok (.iload_n 2, 1) := by decide +kernel
theorem dX10_price_13 : decode cX10_price 13 = .ok (.bipush 100, 2) := by decide +kernel
theorem dX10_price_15 : decode cX10_price 15 = .ok (.idiv, 1) := by decide +kernel
theorem dX10_price_16 : decode cX10_price 16 = .ok (.iconst 3, 1) := by decide +kernel
theorem dX10_price_17 : decode cX10_price 17 = .ok (.if_icmp .gt 28, 3) := by decide +kernel
theorem dX10_price_20 : decode cX10_price 20 = .ok (.iload_n 2, 1) := by decide +kernel
theorem dX10_price_21 : decode cX10_price 21 = .ok (.bipush 100, 2) := by decide +kernel
theorem dX10_price_23 : decode cX10_price 23 = .ok (.irem, 1) := by decide +kernel
theorem dX10_price_24 : decode cX10_price 24 = .ok (.bipush 12, 2) := by decide +kernel
theorem dX10_price_26 : decode cX10_price 26 = .ok (.if_icmp .ge 19, 3) := by decide +kernel
theorem dX10_price_29 : decode cX10_price 29 = .ok (.aload_n 0, 1) := by decide +kernel
theorem dX10_price_30 : decode cX10_price 30 = .ok (.iload_n 1, 1) := by decide +kernel
theorem dX10_price_31 : decode cX10_price 31 = .ok (.iload_n 2, 1) := by decide +kernel
theorem dX10_price_32 : decode cX10_price 32 = .ok (.bipush 100, 2) := by decide +kernel
theorem dX10_price_34 : decode cX10_price 34 = .ok (.idiv, 1) := by decide +kernel
theorem dX10_price_35 : decode cX10_price 35 = .ok (.iload_n 2, 1) := by decide +kernel
theorem dX10_price_36 : decode cX10_price 36 = .ok (.bipush 100, 2) := by decide +kernel
theorem dX10_price_38 : decode cX10_price 38 = .ok (.irem, 1) := by decide +kernel
theorem dX10_price_39 : decode cX10_price 39 = .ok (.invokevirtual 263, 3) := by decide +kernel
theorem dX10_price_42 : decode cX10_price 42 = .ok (.goto 4, 3) := by decide +kernel
theorem dX10_price_45 : decode cX10_price 45 = .ok (.iconst (-1), 1) := by decide +kernel
theorem dX10_price_46 : decode cX10_price 46 = .ok (.ireturn, 1) := by decide +kernel
theorem dX10_rowFault_0 : decode cX10_rowFault 0 = .ok (.aload_n 0, 1) := by decide +kernel
theorem dX10_rowFault_1 : decode cX10_rowFault 1 = .ok (.getfield 123, 3) := by decide +kernel
theorem dX10_rowFault_4 : decode cX10_rowFault 4 = .ok (.iload_n 1, 1) := by decide +kernel
theorem dX10_rowFault_5 : decode cX10_rowFault 5 = .ok (.iaload, 1) := by decide +kernel
theorem dX10_rowFault_6 : decode cX10_rowFault 6 = .ok (.iconst (-1), 1) := by decide +kernel
theorem dX10_rowFault_7 : decode cX10_rowFault 7 = .ok (.if_icmp .ne 8, 3) := by decide +kernel
theorem dX10_rowFault_10 : decode cX10_rowFault 10 = .ok (.bipush (-11), 2) := by decide +kernel
theorem dX10_rowFault_12 : decode cX10_rowFault 12 = .ok (.goto 22, 3) := by decide +kernel
theorem dX10_rowFault_15 : decode cX10_rowFault 15 = .ok (.aload_n 0, 1) := by decide +kernel
theorem dX10_rowFault_16 : decode cX10_rowFault 16 = .ok (.getfield 123, 3) := by decide +kernel
theorem dX10_rowFault_19 : decode cX10_rowFault 19 = .ok (.iload_n 1, 1) := by decide +kernel
theorem dX10_rowFault_20 : decode cX10_rowFault 20 = .ok (.iaload, 1) := by decide +kernel
theorem dX10_rowFault_21 : decode cX10_rowFault 21 = .ok (.bipush (-2), 2) := by decide +kernel
theorem dX10_rowFault_23 : decode cX10_rowFault 23 = .ok (.iload_n 2, 1) := by decide +kernel
theorem dX10_rowFault_24 : decode cX10_rowFault 24 = .ok (.isub, 1) := by decide +kernel
theorem dX10_rowFault_25 : decode cX10_rowFault 25 = .ok (.if_icmp .ne 7, 3) := by decide +kernel
theorem dX10_rowFault_28 : decode cX10_rowFault 28 = .ok (.iconst 0, 1) := by decide +kernel
theorem dX10_rowFault_29 : decode cX10_rowFault 29 = .ok (.goto 5, 3) := by decide +kernel
theorem dX10_rowFault_32 : decode cX10_rowFault 32 = .ok (.bipush (-12), 2) := by decide +kernel
theorem dX10_rowFault_34 : decode cX10_rowFault 34 = .ok (.ireturn, 1) := by decide +kernel
theorem dX10_at_0 : decode cX10_at 0 = .ok (.aload_n 0, 1) := by decide +kernel
theorem dX10_at_1 : decode cX10_at 1 = .ok (.getfield 129, 3) := by decide +kernel
theorem dX10_at_4 : decode cX10_at 4 = .ok (.bipush 60, 2) := by decide +kernel
theorem dX10_at_6 : decode cX10_at 6 = .ok (.iload_n 1, 1) := by decide +kernel
theorem dX10_at_7 : decode cX10_at 7 = .ok (.imul, 1) := by decide +kernel
theorem dX10_at_8 : decode cX10_at 8 = .ok (.iload_n 2, 1) := by decide +kernel
theorem dX10_at_9 : decode cX10_at 9 = .ok (.iadd, 1) := by decide +kernel
theorem dX10_at_10 : decode cX10_at 10 = .ok (.laload, 1) := by decide +kernel
theorem dX10_at_11 : decode cX10_at 11 = .ok (.l2i, 1) := by decide +kernel
theorem dX10_at_12 : decode cX10_at 12 = .ok (.ireturn, 1) := by decide +kernel
theorem dX10_layWired_0 : decode cX10_layWired 0 = .ok (.aload_n 0, 1) := by decide +kernel
theorem dX10_layWired_1 : decode cX10_layWired 1 = .ok (.iconst 0, 1) := by decide +kernel
theorem dX10_layWired_2 : decode cX10_layWired 2 = .ok (.putfield 266, 3) := by decide +kernel
theorem dX10_layWired_5 : decode cX10_layWired 5 = .ok (.aload_n 0, 1) := by decide +kernel
theorem dX10_layWired_6 : decode cX10_layWired 6 = .ok (.getfield 266, 3) := by decide +kernel
theorem dX10_layWired_9 : decode cX10_layWired 9 = .ok (.bipush 12, 2) := by decide +kernel
theorem dX10_layWired_11 : decode cX10_layWired 11 = .ok (.if_icmp .ge 63, 3) := by decide +kernel
theorem dX10_layWired_14 : decode cX10_layWired 14 = .ok (.aload_n 0, 1) := by decide +kernel
theorem dX10_layWired_15 : decode cX10_layWired 15 = .ok (.getfield 266, 3) := by decide +kernel
theorem dX10_layWired_18 : decode cX10_layWired 18 = .ok (.aload_n 0, 1) := by decide +kernel
theorem dX10_layWired_19 : decode cX10_layWired 19 = .ok (.getfield 126, 3) := by decide +kernel
theorem dX10_layWired_22 : decode cX10_layWired 22 = .ok (.iload_n 1, 1) := by decide +kernel
theorem dX10_layWired_23 : decode cX10_layWired 23 = .ok (.iaload, 1) := by decide +kernel
theorem dX10_layWired_24 : decode cX10_layWired 24 = .ok (.if_icmp .ge 50, 3) := by decide +kernel
theorem dX10_layWired_27 : decode cX10_layWired 27 = .ok (.aload_n 0, 1) := by decide +kernel
theorem dX10_layWired_28 : decode cX10_layWired 28 = .ok (.aload_n 0, 1) := by decide +kernel
theorem dX10_layWired_29 : decode cX10_layWired 29 = .ok (.iload_n 1, 1) := by decide +kernel
theorem dX10_layWired_30 : decode cX10_layWired 30 = .ok (.aload_n 0, 1) := by decide +kernel
theorem dX10_layWired_31 : decode cX10_layWired 31 = .ok (.getfield 266, 3) := by decide +kernel
theorem dX10_layWired_34 : decode cX10_layWired 34 = .ok (.invokevirtual 269, 3) := by decide +kernel
theorem dX10_layWired_37 : decode cX10_layWired 37 = .ok (.invokevirtual 173, 3) := by decide +kernel
theorem dX10_layWired_40 : decode cX10_layWired 40 = .ok (.ifCond .eq 34, 3) := by decide +kernel
theorem dX10_layWired_43 : decode cX10_layWired 43 = .ok (.aload_n 0, 1) := by decide +kernel
theorem dX10_layWired_44 : decode cX10_layWired 44 = .ok (.getfield 74, 3) := by decide +kernel
theorem dX10_layWired_47 : decode cX10_layWired 47 = .ok (.aload_n 0, 1) := by decide +kernel
theorem dX10_layWired_48 : decode cX10_layWired 48 = .ok (.getfield 266, 3) := by decide +kernel
theorem dX10_layWired_51 : decode cX10_layWired 51 = .ok (.aload_n 0, 1) := by decide +kernel
theorem dX10_layWired_52 : decode cX10_layWired 52 = .ok (.iload_n 1, 1) := by decide +kernel
theorem dX10_layWired_53 : decode cX10_layWired 53 = .ok (.aload_n 0, 1) := by decide +kernel
theorem dX10_layWired_54 : decode cX10_layWired 54 = .ok (.getfield 266, 3) := by decide +kernel
theorem dX10_layWired_57 : decode cX10_layWired 57 = .ok (.invokevirtual 269, 3) := by decide +kernel
theorem dX10_layWired_60 : decode cX10_layWired 60 = .ok (.iastore, 1) := by decide +kernel
theorem dX10_layWired_61 : decode cX10_layWired 61 = .ok (.aload_n 0, 1) := by decide +kernel
theorem dX10_layWired_62 : decode cX10_layWired 62 = .ok (.dup, 1) := by decide +kernel
theorem dX10_layWired_63 : decode cX10_layWired 63 = .ok (.getfield 266, 3) := by decide +kernel
theorem dX10_layWired_66 : decode cX10_layWired 66 = .ok (.iconst 1, 1) := by decide +kernel
theorem dX10_layWired_67 : decode cX10_layWired 67 = .ok (.iadd, 1) := by decide +kernel
theorem dX10_layWired_68 : decode cX10_layWired 68 = .ok (.putfield 266, 3) := by decide +kernel
theorem dX10_layWired_71 : decode cX10_layWired 71 = .ok (.goto (-66), 3) := by decide +kernel
theorem dX10_layWired_74 : decode cX10_layWired 74 = .ok (.return_, 1) := by decide +kernel
theorem dX10_aheadOf_0 : decode cX10_aheadOf 0 = .ok (.iload_n 1, 1) := by decide +kernel
theorem dX10_aheadOf_1 : decode cX10_aheadOf 1 = .ok (.ifCond .ne 7, 3) := by decide +kernel
theorem dX10_aheadOf_4 : decode cX10_aheadOf 4 = .ok (.iconst 3, 1) := by decide +kernel
theorem dX10_aheadOf_5 : decode cX10_aheadOf 5 = .ok (.goto 16, 3) := by decide +kernel
theorem dX10_aheadOf_8 : decode cX10_aheadOf 8 = .ok (.aload_n 0, 1) := by decide +kernel
theorem dX10_aheadOf_9 : decode cX10_aheadOf 9 = .ok (.getfield 18, 3) := by decide +kernel
theorem dX10_aheadOf_12 : decode cX10_aheadOf 12 = .ok (.aload_n 0, 1) := by decide +kernel
theorem dX10_aheadOf_13 : decode cX10_aheadOf 13 = .ok (.getfield 74, 3) := by decide +kernel
theorem dX10_aheadOf_16 : decode cX10_aheadOf 16 = .ok (.iload_n 1, 1) := by decide +kernel
theorem dX10_aheadOf_17 : decode cX10_aheadOf 17 = .ok (.iconst 1, 1) := by decide +kernel
theorem dX10_aheadOf_18 : decode cX10_aheadOf 18 = .ok (.isub, 1) := by decide +kernel
theorem dX10_aheadOf_19 : decode cX10_aheadOf 19 = .ok (.iaload, 1) := by decide +kernel
theorem dX10_aheadOf_20 : decode cX10_aheadOf 20 = .ok (.iaload, 1) := by decide +kernel
theorem dX10_aheadOf_21 : decode cX10_aheadOf 21 = .ok (.ireturn, 1) := by decide +kernel
theorem dX10_priceAt_0 : decode cX10_priceAt 0 = .ok (.aload_n 0, 1) := by decide +kernel
theorem dX10_priceAt_1 : decode cX10_priceAt 1 = .ok (.aload_n 0, 1) := by decide +kernel
theorem dX10_priceAt_2 : decode cX10_priceAt 2 = .ok (.getfield 74, 3) := by decide +kernel
theorem dX10_priceAt_5 : decode cX10_priceAt 5 = .ok (.iload_n 1, 1) := by decide +kernel
theorem dX10_priceAt_6 : decode cX10_priceAt 6 = .ok (.iaload, 1) := by decide +kernel
theorem dX10_priceAt_7 : decode cX10_priceAt 7 = .ok (.aload_n 0, 1) := by decide +kernel
theorem dX10_priceAt_8 : decode cX10_priceAt 8 = .ok (.iload_n 1, 1) := by decide +kernel
theorem dX10_priceAt_9 : decode cX10_priceAt 9 = .ok (.invokevirtual 272, 3) := by decide +kernel
theorem dX10_priceAt_12 : decode cX10_priceAt 12 = .ok (.iload_n 1, 1) := by decide +kernel
theorem dX10_priceAt_13 : decode cX10_priceAt 13 = .ok (.invokevirtual 263, 3) := by decide +kernel
theorem dX10_priceAt_16 : decode cX10_priceAt 16 = .ok (.ireturn, 1) := by decide +kernel
theorem dX10_priceAll_0 : decode cX10_priceAll 0 = .ok (.iconst 0, 1) := by decide +kernel
theorem dX10_priceAll_1 : decode cX10_priceAll 1 = .ok (.istore_n 1, 1) := by decide +kernel
theorem dX10_priceAll_2 : decode cX10_priceAll 2 = .ok (.iconst 0, 1) := by decide +kernel
theorem dX10_priceAll_3 : decode cX10_priceAll 3 = .ok (.istore_n 2, 1) := by decide +kernel
theorem dX10_priceAll_4 : decode cX10_priceAll 4 = .ok (.iload_n 2, 1) := by decide +kernel
theorem dX10_priceAll_5 : decode cX10_priceAll 5 = .ok (.aload_n 0, 1) := by decide +kernel
theorem dX10_priceAll_6 : decode cX10_priceAll 6 = .ok (.getfield 266, 3) := by decide +kernel
theorem dX10_priceAll_9 : decode cX10_priceAll 9 = .ok (.if_icmp .ge 17, 3) := by decide +kernel
theorem dX10_priceAll_12 : decode cX10_priceAll 12 = .ok (.iload_n 1, 1) := by decide +kernel
theorem dX10_priceAll_13 : decode cX10_priceAll 13 = .ok (.aload_n 0, 1) := by decide +kernel
theorem dX10_priceAll_14 : decode cX10_priceAll 14 = .ok (.iload_n 2, 1) := by decide +kernel
theorem dX10_priceAll_15 : decode cX10_priceAll 15 = .ok (.invokevirtual 275, 3) := by decide +kernel
theorem dX10_priceAll_18 : decode cX10_priceAll 18 = .ok (.iadd, 1) := by decide +kernel
theorem dX10_priceAll_19 : decode cX10_priceAll 19 = .ok (.istore_n 1, 1) := by decide +kernel
theorem dX10_priceAll_20 : decode cX10_priceAll 20 = .ok (.iinc 2 1, 3) := by decide +kernel
theorem dX10_priceAll_23 : decode cX10_priceAll 23 = .ok (.goto (-19), 3) := by decide +kernel
theorem dX10_priceAll_26 : decode cX10_priceAll 26 = .ok (.iload_n 1, 1) := by decide +kernel
theorem dX10_priceAll_27 : decode cX10_priceAll 27 = .ok (.ireturn, 1) := by decide +kernel
theorem dX10_senseAll_0 : decode cX10_senseAll 0 = .ok (.iconst 0, 1) := by decide +kernel
theorem dX10_senseAll_1 : decode cX10_senseAll 1 = .ok (.istore_n 1, 1) := by decide +kernel
theorem dX10_senseAll_2 : decode cX10_senseAll 2 = .ok (.iconst 0, 1) := by decide +kernel
theorem dX10_senseAll_3 : decode cX10_senseAll 3 = .ok (.istore_n 2, 1) := by decide +kernel
theorem dX10_senseAll_4 : decode cX10_senseAll 4 = .ok (.iload_n 2, 1) := by decide +kernel
theorem dX10_senseAll_5 : decode cX10_senseAll 5 = .ok (.aload_n 0, 1) := by decide +kernel
theorem dX10_senseAll_6 : decode cX10_senseAll 6 = .ok (.getfield 266, 3) := by decide +kernel
theorem dX10_senseAll_9 : decode cX10_senseAll 9 = .ok (.if_icmp .ge 23, 3) := by decide +kernel
theorem dX10_senseAll_12 : decode cX10_senseAll 12 = .ok (.iload_n 1, 1) := by decide +kernel
theorem dX10_senseAll_13 : decode cX10_senseAll 13 = .ok (.aload_n 0, 1) := by decide +kernel
theorem dX10_senseAll_14 : decode cX10_senseAll 14 = .ok (.getfield 15, 3) := by decide +kernel
theorem dX10_senseAll_17 : decode cX10_senseAll 17 = .ok (.aload_n 0, 1) := by decide +kernel
theorem dX10_senseAll_18 : decode cX10_senseAll 18 = .ok (.getfield 74, 3) := by decide +kernel
theorem dX10_senseAll_21 : decode cX10_senseAll 21 = .ok (.iload_n 2, 1) := by decide +kernel
theorem dX10_senseAll_22 : decode cX10_senseAll 22 = .ok (.iaload, 1) := by decide +kernel
theorem dX10_senseAll_23 : decode cX10_senseAll 23 = .ok (.iaload, 1) := by decide +kernel
theorem dX10_senseAll_24 : decode cX10_senseAll 24 = .ok (.ior, 1) := by decide +kernel
theorem dX10_senseAll_25 : decode cX10_senseAll 25 = .ok (.istore_n 1, 1) := by decide +kernel
theorem dX10_senseAll_26 : decode cX10_senseAll 26 = .ok (.iinc 2 1, 3) := by decide +kernel
theorem dX10_senseAll_29 : decode cX10_senseAll 29 = .ok (.goto (-25), 3) := by decide +kernel
theorem dX10_senseAll_32 : decode cX10_senseAll 32 = .ok (.iload_n 1, 1) := by decide +kernel
theorem dX10_senseAll_33 : decode cX10_senseAll 33 = .ok (.ireturn, 1) := by decide +kernel
theorem dX10_mayStand_0 : decode cX10_mayStand 0 = .ok (.iload_n 1, 1) := by decide +kernel
theorem dX10_mayStand_1 : decode cX10_mayStand 1 = .ok (.iconst 3, 1) := by decide +kernel
theorem dX10_mayStand_2 : decode cX10_mayStand 2 = .ok (.if_icmp .ne 15, 3) := by decide +kernel
theorem dX10_mayStand_5 : decode cX10_mayStand 5 = .ok (.iload_n 0, 1) := by decide +kernel
theorem dX10_mayStand_6 : decode cX10_mayStand 6 = .ok (.ifCond .ne 7, 3) := by decide +kernel
theorem dX10_mayStand_9 : decode cX10_mayStand 9 = .ok (.iconst 1, 1) := by decide +kernel
theorem dX10_mayStand_10 : decode cX10_mayStand 10 = .ok (.goto 26, 3) := by decide +kernel
theorem dX10_mayStand_13 : decode cX10_mayStand 13 = .ok (.iconst 0, 1) := by decide +kernel
theorem dX10_mayStand_14 : decode cX10_mayStand 14 = .ok (.goto 22, 3) := by decide +kernel
theorem dX10_mayStand_17 : decode cX10_mayStand 17 = .ok (.iload_n 0, 1) := by decide +kernel
theorem dX10_mayStand_18 : decode cX10_mayStand 18 = .ok (.iconst 1, 1) := by decide +kernel
theorem dX10_mayStand_19 : decode cX10_mayStand 19 = .ok (.if_icmp .eq 12, 3) := by decide +kernel
theorem dX10_mayStand_22 : decode cX10_mayStand 22 = .ok (.iload_n 0, 1) := by decide +kernel
theorem dX10_mayStand_23 : decode cX10_mayStand 23 = .ok (.iconst 2, 1) := by decide +kernel
theorem dX10_mayStand_24 : decode cX10_mayStand 24 = .ok (.if_icmp .ne 11, 3) := by decide +kernel
theorem dX10_mayStand_27 : decode cX10_mayStand 27 = .ok (.iload_n 1, 1) := by decide +kernel
theorem dX10_mayStand_28 : decode cX10_mayStand 28 = .ok (.ifCond .eq 7, 3) := by decide +kernel
theorem dX10_mayStand_31 : decode cX10_mayStand 31 = .ok (.iconst 1, 1) := by decide +kernel
theorem dX10_mayStand_32 : decode cX10_mayStand 32 = .ok (.goto 4, 3) := by decide +kernel
theorem dX10_mayStand_35 : decode cX10_mayStand 35 = .ok (.iconst 0, 1) := by decide +kernel
theorem dX10_mayStand_36 : decode cX10_mayStand 36 = .ok (.ireturn, 1) := by decide +kernel
theorem dX10_isRight_0 : decode cX10_isRight 0 = .ok (.iconst 0, 1) := by decide +kernel
theorem dX10_isRight_1 : decode cX10_isRight 1 = .ok (.istore_n 1, 1) := by decide +kernel
theorem dX10_isRight_2 : decode cX10_isRight 2 = .ok (.iconst 0, 1) := by decide +kernel
theorem dX10_isRight_3 : decode cX10_isRight 3 = .ok (.istore_n 2, 1) := by decide +kernel
theorem dX10_isRight_4 : decode cX10_isRight 4 = .ok (.iload_n 2, 1) := by decide +kernel
theorem dX10_isRight_5 : decode cX10_isRight 5 = .ok (.aload_n 0, 1) := by decide +kernel
theorem dX10_isRight_6 : decode cX10_isRight 6 = .ok (.getfield 266, 3) := by decide +kernel
theorem dX10_isRight_9 : decode cX10_isRight 9 = .ok (.if_icmp .ge 50, 3) := by decide +kernel
theorem dX10_isRight_12 : decode cX10_isRight 12 = .ok (.aload_n 0, 1) := by decide +kernel
theorem dX10_isRight_13 : decode cX10_isRight 13 = .ok (.getfield 18, 3) := by decide +kernel
theorem dX10_isRight_16 : decode cX10_isRight 16 = .ok (.aload_n 0, 1) := by decide +kernel
theorem dX10_isRight_17 : decode cX10_isRight 17 = .ok (.getfield 74, 3) := by decide +kernel
theorem dX10_isRight_20 : decode cX10_isRight 20 = .ok (.iload_n 2, 1) := by decide +kernel
theorem dX10_isRight_21 : decode cX10_isRight 21 = .ok (.iaload, 1) := by decide +kernel
theorem dX10_isRight_22 : decode cX10_isRight 22 = .ok (.iaload, 1) := by decide +kernel
theorem dX10_isRight_23 : decode cX10_isRight 23 = .ok (.aload_n 0, 1) := by decide +kernel
theorem dX10_isRight_24 : decode cX10_isRight 24 = .ok (.iload_n 2, 1) := by decide +kernel
theorem dX10_isRight_25 : decode cX10_isRight 25 = .ok (.invokevirtual 272, 3) := by decide +kernel
theorem dX10_isRight_28 : decode cX10_isRight 28 = .ok (.invokestatic 278, 3) := by decide +kernel
theorem dX10_isRight_31 : decode cX10_isRight 31 = .ok (.ifCond .ne 5, 3) := by decide +kernel
theorem dX10_isRight_34 : decode cX10_isRight 34 = .ok (.iconst 0, 1) := by decide +kernel
theorem dX10_isRight_35 : decode cX10_isRight 35 = .ok (.ireturn, 1) := by decide +kernel
theorem dX10_isRight_36 : decode cX10_isRight 36 = .ok (.aload_n 0, 1) := by decide +kernel
theorem dX10_isRight_37 : decode cX10_isRight 37 = .ok (.getfield 18, 3) := by decide +kernel
theorem dX10_isRight_40 : decode cX10_isRight 40 = .ok (.aload_n 0, 1) := by decide +kernel
theorem dX10_isRight_41 : decode cX10_isRight 41 = .ok (.getfield 74, 3) := by decide +kernel
theorem dX10_isRight_44 : decode cX10_isRight 44 = .ok (.iload_n 2, 1) := by decide +kernel
theorem dX10_isRight_45 : decode cX10_isRight 45 = .ok (.iaload, 1) := by decide +kernel
theorem dX10_isRight_46 : decode cX10_isRight 46 = .ok (.iaload, 1) := by decide +kernel
theorem dX10_isRight_47 : decode cX10_isRight 47 = .ok (.iconst 1, 1) := by decide +kernel
theorem dX10_isRight_48 : decode cX10_isRight 48 = .ok (.if_icmp .ne 5, 3) := by decide +kernel
theorem dX10_isRight_51 : decode cX10_isRight 51 = .ok (.iconst 1, 1) := by decide +kernel
theorem dX10_isRight_52 : decode cX10_isRight 52 = .ok (.istore_n 1, 1) := by decide +kernel
theorem dX10_isRight_53 : decode cX10_isRight 53 = .ok (.iinc 2 1, 3) := by decide +kernel
theorem dX10_isRight_56 : decode cX10_isRight 56 = .ok (.goto (-52), 3) := by decide +kernel
theorem dX10_isRight_59 : decode cX10_isRight 59 = .ok (.iload_n 1, 1) := by decide +kernel
theorem dX10_isRight_60 : decode cX10_isRight 60 = .ok (.ireturn, 1) := by decide +kernel
theorem dX10_findJoined_0 : decode cX10_findJoined 0 = .ok (.aload_n 0, 1) := by decide +kernel
theorem dX10_findJoined_1 : decode cX10_findJoined 1 = .ok (.getfield 77, 3) := by decide +kernel
theorem dX10_findJoined_4 : decode cX10_findJoined 4 = .ok (.iconst 0, 1) := by decide +kernel
theorem dX10_findJoined_5 : decode cX10_findJoined 5 = .ok (.iconst 0, 1) := by decide +kernel
theorem dX10_findJoined_6 : decode cX10_findJoined 6 = .ok (.iastore, 1) := by decide +kernel
theorem dX10_findJoined_7 : decode cX10_findJoined 7 = .ok (.aload_n 0, 1) := by decide +kernel
theorem dX10_findJoined_8 : decode cX10_findJoined 8 = .ok (.getfield 80, 3) := by decide +kernel
theorem dX10_findJoined_11 : decode cX10_findJoined 11 = .ok (.iconst 0, 1) := by decide +kernel
theorem dX10_findJoined_12 : decode cX10_findJoined 12 = .ok (.iconst 0, 1) := by decide +kernel
theorem dX10_findJoined_13 : decode cX10_findJoined 13 = .ok (.iastore, 1) := by decide +kernel
theorem dX10_findJoined_14 : decode cX10_findJoined 14 = .ok (.iconst 1, 1) := by decide +kernel
theorem dX10_findJoined_15 : decode cX10_findJoined 15 = .ok (.istore_n 1, 1) := by decide +kernel
theorem dX10_findJoined_16 : decode cX10_findJoined 16 = .ok (.iload_n 1, 1) := by decide +kernel
theorem dX10_findJoined_17 : decode cX10_findJoined 17 = .ok (.aload_n 0, 1) := by decide +kernel
theorem dX10_findJoined_18 : decode cX10_findJoined 18 = .ok (.getfield 266, 3) := by decide +kernel
theorem dX10_findJoined_21 : decode cX10_findJoined 21 = .ok (.if_icmp .gt 165, 3) := by decide +kernel
theorem dX10_findJoined_24 : decode cX10_findJoined 24 = .ok (.aload_n 0, 1) := by decide +kernel
theorem dX10_findJoined_25 : decode cX10_findJoined 25 = .ok (.getfield 77, 3) := by decide +kernel
theorem dX10_findJoined_28 : decode cX10_findJoined 28 = .ok (.iload_n 1, 1) := by decide +kernel
theorem dX10_findJoined_29 : decode cX10_findJoined 29 = .ok (.ldc_w 281, 3) := by decide +kernel
theorem dX10_findJoined_32 : decode cX10_findJoined 32 = .ok (.iastore, 1) := by decide +kernel
theorem dX10_findJoined_33 : decode cX10_findJoined 33 = .ok (.iconst 0, 1) := by decide +kernel
theorem dX10_findJoined_34 : decode cX10_findJoined 34 = .ok (.istore_n 2, 1) := by decide +kernel
theorem dX10_findJoined_35 : decode cX10_findJoined 35 = .ok (.iconst 0, 1) := by decide +kernel
theorem dX10_findJoined_36 : decode cX10_findJoined 36 = .ok (.istore_n 3, 1) := by decide +kernel
theorem dX10_findJoined_37 : decode cX10_findJoined 37 = .ok (.iload_n 1, 1) := by decide +kernel
theorem dX10_findJoined_38 : decode cX10_findJoined 38 = .ok (.iconst 1, 1) := by decide +kernel
theorem dX10_findJoined_39 : decode cX10_findJoined 39 = .ok (.isub, 1) := by decide +kernel
theorem dX10_findJoined_40 : decode cX10_findJoined 40 = .ok (.istore 4, 2) := by decide +kernel
theorem dX10_findJoined_42 : decode cX10_findJoined 42 = .ok (.iload 4, 2) := by decide +kernel
theorem dX10_findJoined_44 : decode cX10_findJoined 44 = .ok (.ifCond .lt 136, 3) := by decide +kernel
theorem dX10_findJoined_47 : decode cX10_findJoined 47 = .ok (.iload_n 2, 1) := by decide +kernel
theorem dX10_findJoined_48 : decode cX10_findJoined 48 = .ok (.aload_n 0, 1) := by decide +kernel
theorem dX10_findJoined_49 : decode cX10_findJoined 49 = .ok (.getfield 21, 3) := by decide +kernel
theorem dX10_findJoined_52 : decode cX10_findJoined 52 = .ok (.aload_n 0, 1) := by decide +kernel
theorem dX10_findJoined_53 : decode cX10_findJoined 53 = .ok (.getfield 74, 3) := by decide +kernel
theorem dX10_findJoined_56 : decode cX10_findJoined 56 = .ok (.iload 4, 2) := by decide +kernel
theorem dX10_findJoined_58 : decode cX10_findJoined 58 = .ok (.iaload, 1) := by decide +kernel
theorem dX10_findJoined_59 : decode cX10_findJoined 59 = .ok (.iaload, 1) := by decide +kernel
theorem dX10_findJoined_60 : decode cX10_findJoined 60 = .ok (.iadd, 1) := by decide +kernel
theorem dX10_findJoined_61 : decode cX10_findJoined 61 = .ok (.istore_n 2, 1) := by decide +kernel
theorem dX10_findJoined_62 : decode cX10_findJoined 62 = .ok (.aload_n 0, 1) := by decide +kernel
theorem dX10_findJoined_63 : decode cX10_findJoined 63 = .ok (.iload 4, 2) := by decide +kernel
theorem dX10_findJoined_65 : decode cX10_findJoined 65 = .ok (.invokevirtual 275, 3) := by decide +kernel
theorem dX10_findJoined_68 : decode cX10_findJoined 68 = .ok (.iload_n 3, 1) := by decide +kernel
theorem dX10_findJoined_69 : decode cX10_findJoined 69 = .ok (.if_icmp .le 10, 3) := by decide +kernel
theorem dX10_findJoined_72 : decode cX10_findJoined 72 = .ok (.aload_n 0, 1) := by decide +kernel
theorem dX10_findJoined_73 : decode cX10_findJoined 73 = .ok (.iload 4, 2) := by decide +kernel
theorem dX10_findJoined_75 : decode cX10_findJoined 75 = .ok (.invokevirtual 275, 3) := by decide +kernel
theorem dX10_findJoined_78 : decode cX10_findJoined 78 = .ok (.istore_n 3, 1) := by decide +kernel
theorem dX10_findJoined_79 : decode cX10_findJoined 79 = .ok (.iload_n 2, 1) := by decide +kernel
theorem dX10_findJoined_80 : decode cX10_findJoined 80 = .ok (.aload_n 0, 1) := by decide +kernel
theorem dX10_findJoined_81 : decode cX10_findJoined 81 = .ok (.getfield 33, 3) := by decide +kernel
theorem dX10_findJoined_84 : decode cX10_findJoined 84 = .ok (.iconst 2, 1) := by decide +kernel
theorem dX10_findJoined_85 : decode cX10_findJoined 85 = .ok (.iaload, 1) := by decide +kernel
theorem dX10_findJoined_86 : decode cX10_findJoined 86 = .ok (.if_icmp .le 14, 3) := by decide +kernel
theorem dX10_findJoined_89 : decode cX10_findJoined 89 = .ok (.iload 4, 2) := by decide +kernel
theorem dX10_findJoined_91 : decode cX10_findJoined 91 = .ok (.iload_n 1, 1) := by decide +kernel
theorem dX10_findJoined_92 : decode cX10_findJoined 92 = .ok (.iconst 1, 1) := by decide +kernel
theorem dX10_findJoined_93 : decode cX10_findJoined 93 = .ok (.isub, 1) := by decide +kernel
theorem dX10_findJoined_94 : decode cX10_findJoined 94 = .ok (.if_icmp .ge 6, 3) := by decide +kernel
theorem dX10_findJoined_97 : decode cX10_findJoined 97 = .ok (.goto 83, 3) := by decide +kernel
theorem dX10_findJoined_100 : decode cX10_findJoined 100 = .ok (.aload_n 0, 1) := by decide +kernel
theorem dX10_findJoined_101 : decode cX10_findJoined 101 = .ok (.getfield 77, 3) := by decide +kernel
theorem dX10_findJoined_104 : decode cX10_findJoined 104 = .ok (.iload 4, 2) := by decide +kernel
theorem dX10_findJoined_106 : decode cX10_findJoined 106 = .ok (.iaload, 1) := by decide +kernel
theorem dX10_findJoined_107 : decode cX10_findJoined 107 = .ok (.iload_n 3, 1) := by decide +kernel
theorem dX10_findJoined_108 : decode cX10_findJoined 108 = .ok (.iadd, 1) := by decide +kernel
theorem dX10_findJoined_109 : decode cX10_findJoined 109 = .ok (.istore 5, 2) := by decide +kernel
theorem dX10_findJoined_111 : decode cX10_findJoined 111 = .ok (.aload_n 0, 1) := by decide +kernel
theorem dX10_findJoined_112 : decode cX10_findJoined 112 = .ok (.getfield 80, 3) := by decide +kernel
theorem dX10_findJoined_115 : decode cX10_findJoined 115 = .ok (.iload 4, 2) := by decide +kernel
theorem dX10_findJoined_117 : decode cX10_findJoined 117 = .ok (.iaload, 1) := by decide +kernel
theorem dX10_findJoined_118 : decode cX10_findJoined 118 = .ok (.iconst 1, 1) := by decide +kernel
theorem dX10_findJoined_119 : decode cX10_findJoined 119 = .ok (.iadd, 1) := by decide +kernel
theorem dX10_findJoined_120 : decode cX10_findJoined 120 = .ok (.istore 6, 2) := by decide +kernel
theorem dX10_findJoined_122 : decode cX10_findJoined 122 = .ok (.iload 5, 2) := by decide +kernel
theorem dX10_findJoined_124 : decode cX10_findJoined 124 = .ok (.aload_n 0, 1) := by decide +kernel
theorem dX10_findJoined_125 : decode cX10_findJoined 125 = .ok (.getfield 77, 3) := by decide +kernel
theorem dX10_findJoined_128 : decode cX10_findJoined 128 = .ok (.iload_n 1, 1) := by decide +kernel
theorem dX10_findJoined_129 : decode cX10_findJoined 129 = .ok (.iaload, 1) := by decide +kernel
theorem dX10_findJoined_130 : decode cX10_findJoined 130 = .ok (.if_icmp .gt 44, 3) := by decide +kernel
theorem dX10_findJoined_133 : decode cX10_findJoined 133 = .ok (.iload 5, 2) := by decide +kernel
theorem dX10_findJoined_135 : decode cX10_findJoined 135 = .ok (.aload_n 0, 1) := by decide +kernel
theorem dX10_findJoined_136 : decode cX10_findJoined 136 = .ok (.getfield 77, 3) := by decide +kernel
theorem dX10_findJoined_139 : decode cX10_findJoined 139 = .ok (.iload_n 1, 1) := by decide +kernel
theorem dX10_findJoined_140 : decode cX10_findJoined 140 = .ok (.iaload, 1) := by decide +kernel
theorem dX10_findJoined_141 : decode cX10_findJoined 141 = .ok (.if_icmp .ne 17, 3) := by decide +kernel
theorem dX10_findJoined_144 : decode cX10_findJoined 144 = .ok (.iload 6, 2) := by decide +kernel
theorem dX10_findJoined_146 : decode cX10_findJoined 146 = .ok (.aload_n 0, 1) := by decide +kernel
theorem dX10_findJoined_147 : decode cX10_findJoined 147 = .ok (.getfield 80, 3) := by decide +kernel
theorem dX10_findJoined_150 : decode cX10_findJoined 150 = .ok (.iload_n 1, 1) := by decide +kernel
theorem dX10_findJoined_151 : decode cX10_findJoined 151 = .ok (.iaload, 1) := by decide +kernel
theorem dX10_findJoined_152 : decode cX10_findJoined 152 = .ok (.if_icmp .lt 6, 3) := by decide +kernel
theorem dX10_findJoined_155 : decode cX10_findJoined 155 = .ok (.goto 19, 3) := by decide +kernel
theorem dX10_findJoined_158 : decode cX10_findJoined 158 = .ok (.aload_n 0, 1) := by decide +kernel
theorem dX10_findJoined_159 : decode cX10_findJoined 159 = .ok (.getfield 77, 3) := by decide +kernel
theorem dX10_findJoined_162 : decode cX10_findJoined 162 = .ok (.iload_n 1, 1) := by decide +kernel
theorem dX10_findJoined_163 : decode cX10_findJoined 163 = .ok (.iload 5, 2) := by decide +kernel
theorem dX10_findJoined_165 : decode cX10_findJoined 165 = .ok (.iastore, 1) := by decide +kernel
theorem dX10_findJoined_166 : decode cX10_findJoined 166 = .ok (.aload_n 0, 1) := by decide +kernel
theorem dX10_findJoined_167 : decode cX10_findJoined 167 = .ok (.getfield 80, 3) := by decide +kernel
theorem dX10_findJoined_170 : decode cX10_findJoined 170 = .ok (.iload_n 1, 1) := by decide +kernel
theorem dX10_findJoined_171 : decode cX10_findJoined 171 = .ok (.iload 6, 2) := by decide +kernel
theorem dX10_findJoined_173 : decode cX10_findJoined 173 = .ok (.iastore, 1) := by decide +kernel
theorem dX10_findJoined_174 : decode cX10_findJoined 174 = .ok (.iinc 4 (-1), 3) := by decide +kernel
theorem dX10_findJoined_177 : decode cX10_findJoined 177 = .ok (.goto (-135), 3) := by decide +kernel
theorem dX10_findJoined_180 : decode cX10_findJoined 180 = .ok (.iinc 1 1, 3) := by decide +kernel
theorem dX10_findJoined_183 : decode cX10_findJoined 183 = .ok (.goto (-167), 3) := by decide +kernel
theorem dX10_findJoined_186 : decode cX10_findJoined 186 = .ok (.return_, 1) := by decide +kernel
theorem dX10_wire_0 : decode cX10_wire 0 = .ok (.iload_n 1, 1) := by decide +kernel
theorem dX10_wire_1 : decode cX10_wire 1 = .ok (.invokestatic 153, 3) := by decide +kernel
theorem dX10_wire_4 : decode cX10_wire 4 = .ok (.ifCond .eq 12, 3) := by decide +kernel
theorem dX10_wire_7 : decode cX10_wire 7 = .ok (.iload_n 2, 1) := by decide +kernel
theorem dX10_wire_8 : decode cX10_wire 8 = .ok (.iconst 0, 1) := by decide +kernel
theorem dX10_wire_9 : decode cX10_wire 9 = .ok (.iconst 5, 1) := by decide +kernel
theorem dX10_wire_10 : decode cX10_wire 10 = .ok (.invokestatic 142, 3) := by decide +kernel
theorem dX10_wire_13 : decode cX10_wire 13 = .ok (.ifCond .ne 5, 3) := by decide +kernel
theorem dX10_wire_16 : decode cX10_wire 16 = .ok (.iconst (-1), 1) := by decide +kernel
theorem dX10_wire_17 : decode cX10_wire 17 = .ok (.ireturn, 1) := by decide +kernel
theorem dX10_wire_18 : decode cX10_wire 18 = .ok (.aload_n 0, 1) := by decide +kernel
theorem dX10_wire_19 : decode cX10_wire 19 = .ok (.iload_n 1, 1) := by decide +kernel
theorem dX10_wire_20 : decode cX10_wire 20 = .ok (.iconst 0, 1) := by decide +kernel
theorem dX10_wire_21 : decode cX10_wire 21 = .ok (.invokevirtual 282, 3) := by decide +kernel
theorem dX10_wire_24 : decode cX10_wire 24 = .ok (.istore_n 3, 1) := by decide +kernel
theorem dX10_wire_25 : decode cX10_wire 25 = .ok (.iload_n 3, 1) := by decide +kernel
theorem dX10_wire_26 : decode cX10_wire 26 = .ok (.ifCond .ge 5, 3) := by decide +kernel
theorem dX10_wire_29 : decode cX10_wire 29 = .ok (.iload_n 3, 1) := by decide +kernel
theorem dX10_wire_30 : decode cX10_wire 30 = .ok (.ireturn, 1) := by decide +kernel
theorem dX10_wire_31 : decode cX10_wire 31 = .ok (.aload_n 0, 1) := by decide +kernel
theorem dX10_wire_32 : decode cX10_wire 32 = .ok (.iload_n 1, 1) := by decide +kernel
theorem dX10_wire_33 : decode cX10_wire 33 = .ok (.invokevirtual 285, 3) := by decide +kernel
theorem dX10_wire_36 : decode cX10_wire 36 = .ok (.aload_n 0, 1) := by decide +kernel
theorem dX10_wire_37 : decode cX10_wire 37 = .ok (.invokevirtual 289, 3) := by decide +kernel
theorem dX10_wire_40 : decode cX10_wire 40 = .ok (.iload_n 2, 1) := by decide +kernel
theorem dX10_wire_41 : decode cX10_wire 41 = .ok (.tableswitch 73 0 4 #[35, 40, 45, 58, 63], 35) := by decide +kernel
theorem dX10_wire_76 : decode cX10_wire 76 = .ok (.aload_n 0, 1) := by decide +kernel
theorem dX10_wire_77 : decode cX10_wire 77 = .ok (.invokevirtual 292, 3) := by decide +kernel
theorem dX10_wire_80 : decode cX10_wire 80 = .ok (.ireturn, 1) := by decide +kernel
theorem dX10_wire_81 : decode cX10_wire 81 = .ok (.aload_n 0, 1) := by decide +kernel
theorem dX10_wire_82 : decode cX10_wire 82 = .ok (.invokevirtual 295, 3) := by decide +kernel
theorem dX10_wire_85 : decode cX10_wire 85 = .ok (.ireturn, 1) := by decide +kernel
theorem dX10_wire_86 : decode cX10_wire 86 = .ok (.aload_n 0, 1) := by decide +kernel
theorem dX10_wire_87 : decode cX10_wire 87 = .ok (.invokevirtual 298, 3) := by decide +kernel
theorem dX10_wire_90 : decode cX10_wire 90 = .ok (.ifCond .eq 7, 3) := by decide +kernel
theorem dX10_wire_93 : decode cX10_wire 93 = .ok (.iconst 1, 1) := by decide +kernel
theorem dX10_wire_94 : decode cX10_wire 94 = .ok (.goto 4, 3) := by decide +kernel
theorem dX10_wire_97 : decode cX10_wire 97 = .ok (.iconst 0, 1) := by decide +kernel
theorem dX10_wire_98 : decode cX10_wire 98 = .ok (.ireturn, 1) := by decide +kernel
theorem dX10_wire_99 : decode cX10_wire 99 = .ok (.aload_n 0, 1) := by decide +kernel
theorem dX10_wire_100 : decode cX10_wire 100 = .ok (.getfield 266, 3) := by decide +kernel
theorem dX10_wire_103 : decode cX10_wire 103 = .ok (.ireturn, 1) := by decide +kernel
theorem dX10_wire_104 : decode cX10_wire 104 = .ok (.aload_n 0, 1) := by decide +kernel
theorem dX10_wire_105 : decode cX10_wire 105 = .ok (.getfield 77, 3) := by decide +kernel
theorem dX10_wire_108 : decode cX10_wire 108 = .ok (.aload_n 0, 1) := by decide +kernel
theorem dX10_wire_109 : decode cX10_wire 109 = .ok (.getfield 266, 3) := by decide +kernel
theorem dX10_wire_112 : decode cX10_wire 112 = .ok (.iaload, 1) := by decide +kernel
theorem dX10_wire_113 : decode cX10_wire 113 = .ok (.ireturn, 1) := by decide +kernel
theorem dX10_wire_114 : decode cX10_wire 114 = .ok (.aload_n 0, 1) := by decide +kernel
theorem dX10_wire_115 : decode cX10_wire 115 = .ok (.getfield 80, 3) := by decide +kernel
theorem dX10_wire_118 : decode cX10_wire 118 = .ok (.aload_n 0, 1) := by decide +kernel
theorem dX10_wire_119 : decode cX10_wire 119 = .ok (.getfield 266, 3) := by decide +kernel
theorem dX10_wire_122 : decode cX10_wire 122 = .ok (.iaload, 1) := by decide +kernel
theorem dX10_wire_123 : decode cX10_wire 123 = .ok (.ireturn, 1) := by decide +kernel
theorem dX10_sayAt_0 : decode cX10_sayAt 0 = .ok (.iload_n 0, 1) := by decide +kernel
theorem dX10_sayAt_1 : decode cX10_sayAt 1 = .ok (.iconst 4, 1) := by decide +kernel
theorem dX10_sayAt_2 : decode cX10_sayAt 2 = .ok (.imul, 1) := by decide +kernel
theorem dX10_sayAt_3 : decode cX10_sayAt 3 = .ok (.iload_n 1, 1) := by decide +kernel
theorem dX10_sayAt_4 : decode cX10_sayAt 4 = .ok (.iadd, 1) := by decide +kernel
theorem dX10_sayAt_5 : decode cX10_sayAt 5 = .ok (.iconst 2, 1) := by decide +kernel
theorem dX10_sayAt_6 : decode cX10_sayAt 6 = .ok (.imul, 1) := by decide +kernel
theorem dX10_sayAt_7 : decode cX10_sayAt 7 = .ok (.iload_n 2, 1) := by decide +kernel
theorem dX10_sayAt_8 : decode cX10_sayAt 8 = .ok (.iadd, 1) := by decide +kernel
theorem dX10_sayAt_9 : decode cX10_sayAt 9 = .ok (.bipush 64, 2) := by decide +kernel
theorem dX10_sayAt_11 : decode cX10_sayAt 11 = .ok (.imul, 1) := by decide +kernel
theorem dX10_sayAt_12 : decode cX10_sayAt 12 = .ok (.iload_n 3, 1) := by decide +kernel
theorem dX10_sayAt_13 : decode cX10_sayAt 13 = .ok (.iadd, 1) := by decide +kernel
theorem dX10_sayAt_14 : decode cX10_sayAt 14 = .ok (.ireturn, 1) := by decide +kernel
theorem dX10_sayBy_0 : decode cX10_sayBy 0 = .ok (.aload_n 0, 1) := by decide +kernel
theorem dX10_sayBy_1 : decode cX10_sayBy 1 = .ok (.getfield 18, 3) := by decide +kernel
theorem dX10_sayBy_4 : decode cX10_sayBy 4 = .ok (.iload_n 1, 1) := by decide +kernel
theorem dX10_sayBy_5 : decode cX10_sayBy 5 = .ok (.iaload, 1) := by decide +kernel
theorem dX10_sayBy_6 : decode cX10_sayBy 6 = .ok (.iload_n 3, 1) := by decide +kernel
theorem dX10_sayBy_7 : decode cX10_sayBy 7 = .ok (.invokestatic 278, 3) := by decide +kernel
theorem dX10_sayBy_10 : decode cX10_sayBy 10 = .ok (.ifCond .eq 17, 3) := by decide +kernel
theorem dX10_sayBy_13 : decode cX10_sayBy 13 = .ok (.aload_n 0, 1) := by decide +kernel
theorem dX10_sayBy_14 : decode cX10_sayBy 14 = .ok (.getfield 15, 3) := by decide +kernel
theorem dX10_sayBy_17 : decode cX10_sayBy 17 = .ok (.iload_n 1, 1) := by decide +kernel
theorem dX10_sayBy_18 : decode cX10_sayBy 18 = .ok (.iaload, 1) := by decide +kernel
theorem dX10_sayBy_19 : decode cX10_sayBy 19 = .ok (.aload_n 0, 1) := by decide +kernel
theorem dX10_sayBy_20 : decode cX10_sayBy 20 = .ok (.getfield 301, 3) := by decide +kernel
theorem dX10_sayBy_23 : decode cX10_sayBy 23 = .ok (.iand, 1) := by decide +kernel
theorem dX10_sayBy_24 : decode cX10_sayBy 24 = .ok (.ifCond .eq 7, 3) := by decide +kernel
theorem dX10_sayBy_27 : decode cX10_sayBy 27 = .ok (.ldc_w 281, 3) := by decide +kernel
theorem dX10_sayBy_30 : decode cX10_sayBy 30 = .ok (.ireturn, 1) := by decide +kernel
theorem dX10_sayBy_31 : decode cX10_sayBy 31 = .ok (.aload_n 0, 1) := by decide +kernel
theorem dX10_sayBy_32 : decode cX10_sayBy 32 = .ok (.getfield 83, 3) := by decide +kernel
theorem dX10_sayBy_35 : decode cX10_sayBy 35 = .ok (.iload_n 2, 1) := by decide +kernel
theorem dX10_sayBy_36 : decode cX10_sayBy 36 = .ok (.iconst 1, 1) := by decide +kernel
theorem dX10_sayBy_37 : decode cX10_sayBy 37 = .ok (.iadd, 1) := by decide +kernel
theorem dX10_sayBy_38 : decode cX10_sayBy 38 = .ok (.aload_n 0, 1) := by decide +kernel
theorem dX10_sayBy_39 : decode cX10_sayBy 39 = .ok (.getfield 18, 3) := by decide +kernel
theorem dX10_sayBy_42 : decode cX10_sayBy 42 = .ok (.iload_n 1, 1) := by decide +kernel
theorem dX10_sayBy_43 : decode cX10_sayBy 43 = .ok (.iaload, 1) := by decide +kernel
theorem dX10_sayBy_44 : decode cX10_sayBy 44 = .ok (.aload_n 0, 1) := by decide +kernel
theorem dX10_sayBy_45 : decode cX10_sayBy 45 = .ok (.getfield 18, 3) := by decide +kernel
theorem dX10_sayBy_48 : decode cX10_sayBy 48 = .ok (.iload_n 1, 1) := by decide +kernel
theorem dX10_sayBy_49 : decode cX10_sayBy 49 = .ok (.iaload, 1) := by decide +kernel
theorem dX10_sayBy_50 : decode cX10_sayBy 50 = .ok (.iconst 1, 1) := by decide +kernel
theorem dX10_sayBy_51 : decode cX10_sayBy 51 = .ok (.if_icmp .ne 7, 3) := by decide +kernel
theorem dX10_sayBy_54 : decode cX10_sayBy 54 = .ok (.iconst 1, 1) := by decide +kernel
theorem dX10_sayBy_55 : decode cX10_sayBy 55 = .ok (.goto 5, 3) := by decide +kernel
theorem dX10_sayBy_58 : decode cX10_sayBy 58 = .ok (.iload 4, 2) := by decide +kernel
theorem dX10_sayBy_60 : decode cX10_sayBy 60 = .ok (.iload 5, 2) := by decide +kernel
theorem dX10_sayBy_62 : decode cX10_sayBy 62 = .ok (.aload_n 0, 1) := by decide +kernel
theorem dX10_sayBy_63 : decode cX10_sayBy 63 = .ok (.getfield 15, 3) := by decide +kernel
theorem dX10_sayBy_66 : decode cX10_sayBy 66 = .ok (.iload_n 1, 1) := by decide +kernel
theorem dX10_sayBy_67 : decode cX10_sayBy 67 = .ok (.iaload, 1) := by decide +kernel
theorem dX10_sayBy_68 : decode cX10_sayBy 68 = .ok (.ior, 1) := by decide +kernel
theorem dX10_sayBy_69 : decode cX10_sayBy 69 = .ok (.invokestatic 304, 3) := by decide +kernel
theorem dX10_sayBy_72 : decode cX10_sayBy 72 = .ok (.iaload, 1) := by decide +kernel
theorem dX10_sayBy_73 : decode cX10_sayBy 73 = .ok (.istore 6, 2) := by decide +kernel
theorem dX10_sayBy_75 : decode cX10_sayBy 75 = .ok (.iload 6, 2) := by decide +kernel
theorem dX10_sayBy_77 : decode cX10_sayBy 77 = .ok (.ldc_w 281, 3) := by decide +kernel
theorem dX10_sayBy_80 : decode cX10_sayBy 80 = .ok (.if_icmp .lt 9, 3) := by decide +kernel
theorem dX10_sayBy_83 : decode cX10_sayBy 83 = .ok (.ldc_w 281, 3) := by decide +kernel
theorem dX10_sayBy_86 : decode cX10_sayBy 86 = .ok (.goto 18, 3) := by decide +kernel
theorem dX10_sayBy_89 : decode cX10_sayBy 89 = .ok (.iload 6, 2) := by decide +kernel
theorem dX10_sayBy_91 : decode cX10_sayBy 91 = .ok (.bipush 16, 2) := by decide +kernel
theorem dX10_sayBy_93 : decode cX10_sayBy 93 = .ok (.aload_n 0, 1) := by decide +kernel
theorem dX10_sayBy_94 : decode cX10_sayBy 94 = .ok (.iload_n 1, 1) := by decide +kernel
theorem dX10_sayBy_95 : decode cX10_sayBy 95 = .ok (.iload_n 3, 1) := by decide +kernel
theorem dX10_sayBy_96 : decode cX10_sayBy 96 = .ok (.iload_n 2, 1) := by decide +kernel
theorem dX10_sayBy_97 : decode cX10_sayBy 97 = .ok (.invokevirtual 263, 3) := by decide +kernel
theorem dX10_sayBy_100 : decode cX10_sayBy 100 = .ok (.imul, 1) := by decide +kernel
theorem dX10_sayBy_101 : decode cX10_sayBy 101 = .ok (.iadd, 1) := by decide +kernel
theorem dX10_sayBy_102 : decode cX10_sayBy 102 = .ok (.iconst 1, 1) := by decide +kernel
theorem dX10_sayBy_103 : decode cX10_sayBy 103 = .ok (.iadd, 1) := by decide +kernel
theorem dX10_sayBy_104 : decode cX10_sayBy 104 = .ok (.ireturn, 1) := by decide +kernel
theorem dX10_findSay_0 : decode cX10_findSay 0 = .ok (.aload_n 0, 1) := by decide +kernel
theorem dX10_findSay_1 : decode cX10_findSay 1 = .ok (.iload_n 1, 1) := by decide +kernel
theorem dX10_findSay_2 : decode cX10_findSay 2 = .ok (.putfield 308, 3) := by decide +kernel
theorem dX10_findSay_5 : decode cX10_findSay 5 = .ok (.aload_n 0, 1) := by decide +kernel
theorem dX10_findSay_6 : decode cX10_findSay 6 = .ok (.iload_n 2, 1) := by decide +kernel
theorem dX10_findSay_7 : decode cX10_findSay 7 = .ok (.putfield 301, 3) := by decide +kernel
theorem dX10_findSay_10 : decode cX10_findSay 10 = .ok (.bipush 6, 2) := by decide +kernel
theorem dX10_findSay_12 : decode cX10_findSay 12 = .ok (.istore_n 3, 1) := by decide +kernel
theorem dX10_findSay_13 : decode cX10_findSay 13 = .ok (.iload_n 3, 1) := by decide +kernel
theorem dX10_findSay_14 : decode cX10_findSay 14 = .ok (.ifCond .lt 81, 3) := by decide +kernel
theorem dX10_findSay_17 : decode cX10_findSay 17 = .ok (.iconst 0, 1) := by decide +kernel
theorem dX10_findSay_18 : decode cX10_findSay 18 = .ok (.istore 4, 2) := by decide +kernel
theorem dX10_findSay_20 : decode cX10_findSay 20 = .ok (.iload 4, 2) := by decide +kernel
theorem dX10_findSay_22 : decode cX10_findSay 22 = .ok (.iconst 4, 1) := by decide +kernel
theorem dX10_findSay_23 : decode cX10_findSay 23 = .ok (.if_icmp .ge 66, 3) := by decide +kernel
theorem dX10_findSay_26 : decode cX10_findSay 26 = .ok (.iconst 0, 1) := by decide +kernel
theorem dX10_findSay_27 : decode cX10_findSay 27 = .ok (.istore 5, 2) := by decide +kernel
theorem dX10_findSay_29 : decode cX10_findSay 29 = .ok (.iload 5, 2) := by decide +kernel
theorem dX10_findSay_31 : decode cX10_findSay 31 = .ok (.iconst 2, 1) := by decide +kernel
theorem dX10_findSay_32 : decode cX10_findSay 32 = .ok (.if_icmp .ge 51, 3) := by decide +kernel
theorem dX10_findSay_35 : decode cX10_findSay 35 = .ok (.iconst 0, 1) := by decide +kernel
theorem dX10_findSay_36 : decode cX10_findSay 36 = .ok (.istore 6, 2) := by decide +kernel
theorem dX10_findSay_38 : decode cX10_findSay 38 = .ok (.iload 6, 2) := by decide +kernel
theorem dX10_findSay_40 : decode cX10_findSay 40 = .ok (.bipush 64, 2) := by decide +kernel
theorem dX10_findSay_42 : decode cX10_findSay 42 = .ok (.if_icmp .ge 35, 3) := by decide +kernel
theorem dX10_findSay_45 : decode cX10_findSay 45 = .ok (.aload_n 0, 1) := by decide +kernel
theorem dX10_findSay_46 : decode cX10_findSay 46 = .ok (.getfield 83, 3) := by decide +kernel
theorem dX10_findSay_49 : decode cX10_findSay 49 = .ok (.iload_n 3, 1) := by decide +kernel
theorem dX10_findSay_50 : decode cX10_findSay 50 = .ok (.iload 4, 2) := by decide +kernel
theorem dX10_findSay_52 : decode cX10_findSay 52 = .ok (.iload 5, 2) := by decide +kernel
theorem dX10_findSay_54 : decode cX10_findSay 54 = .ok (.iload 6, 2) := by decide +kernel
theorem dX10_findSay_56 : decode cX10_findSay 56 = .ok (.invokestatic 304, 3) := by decide +kernel
theorem dX10_findSay_59 : decode cX10_findSay 59 = .ok (.aload_n 0, 1) := by decide +kernel
theorem dX10_findSay_60 : decode cX10_findSay 60 = .ok (.iload_n 3, 1) := by decide +kernel
theorem dX10_findSay_61 : decode cX10_findSay 61 = .ok (.iload 4, 2) := by decide +kernel
theorem dX10_findSay_63 : decode cX10_findSay 63 = .ok (.iload 5, 2) := by decide +kernel
theorem dX10_findSay_65 : decode cX10_findSay 65 = .ok (.iload 6, 2) := by decide +kernel
theorem dX10_findSay_67 : decode cX10_findSay 67 = .ok (.invokevirtual 311, 3) := by decide +kernel
theorem dX10_findSay_70 : decode cX10_findSay 70 = .ok (.iastore, 1) := by decide +kernel
theorem dX10_findSay_71 : decode cX10_findSay 71 = .ok (.iinc 6 1, 3) := by decide +kernel
theorem dX10_findSay_74 : decode cX10_findSay 74 = .ok (.goto (-36), 3) := by decide +kernel
theorem dX10_findSay_77 : decode cX10_findSay 77 = .ok (.iinc 5 1, 3) := by decide +kernel
theorem dX10_findSay_80 : decode cX10_findSay 80 = .ok (.goto (-51), 3) := by decide +kernel
theorem dX10_findSay_83 : decode cX10_findSay 83 = .ok (.iinc 4 1, 3) := by decide +kernel
theorem dX10_findSay_86 : decode cX10_findSay 86 = .ok (.goto (-66), 3) := by decide +kernel
theorem dX10_findSay_89 : decode cX10_findSay 89 = .ok (.iinc 3 (-1), 3) := by decide +kernel
theorem dX10_findSay_92 : decode cX10_findSay 92 = .ok (.goto (-79), 3) := by decide +kernel
theorem dX10_findSay_95 : decode cX10_findSay 95 = .ok (.return_, 1) := by decide +kernel
theorem dX10_leastSay_0 : decode cX10_leastSay 0 = .ok (.iload_n 3, 1) := by decide +kernel
theorem dX10_leastSay_1 : decode cX10_leastSay 1 = .ok (.iconst 1, 1) := by decide +kernel
theorem dX10_leastSay_2 : decode cX10_leastSay 2 = .ok (.if_icmp .ne 19, 3) := by decide +kernel
theorem dX10_leastSay_5 : decode cX10_leastSay 5 = .ok (.iload 4, 2) := by decide +kernel
theorem dX10_leastSay_7 : decode cX10_leastSay 7 = .ok (.aload_n 0, 1) := by decide +kernel
theorem dX10_leastSay_8 : decode cX10_leastSay 8 = .ok (.getfield 308, 3) := by decide +kernel
theorem dX10_leastSay_11 : decode cX10_leastSay 11 = .ok (.iand, 1) := by decide +kernel
theorem dX10_leastSay_12 : decode cX10_leastSay 12 = .ok (.aload_n 0, 1) := by decide +kernel
theorem dX10_leastSay_13 : decode cX10_leastSay 13 = .ok (.getfield 308, 3) := by decide +kernel
theorem dX10_leastSay_16 : decode cX10_leastSay 16 = .ok (.if_icmp .ne 5, 3) := by decide +kernel
theorem dX10_leastSay_19 : decode cX10_leastSay 19 = .ok (.iconst 0, 1) := by decide +kernel
theorem dX10_leastSay_20 : decode cX10_leastSay 20 = .ok (.ireturn, 1) := by decide +kernel
theorem dX10_leastSay_21 : decode cX10_leastSay 21 = .ok (.ldc_w 281, 3) := by decide +kernel
theorem dX10_leastSay_24 : decode cX10_leastSay 24 = .ok (.istore 5, 2) := by decide +kernel
theorem dX10_leastSay_26 : decode cX10_leastSay 26 = .ok (.iconst 0, 1) := by decide +kernel
theorem dX10_leastSay_27 : decode cX10_leastSay 27 = .ok (.istore 6, 2) := by decide +kernel
theorem dX10_leastSay_29 : decode cX10_leastSay 29 = .ok (.iload 6, 2) := by decide +kernel
theorem dX10_leastSay_31 : decode cX10_leastSay 31 = .ok (.aload_n 0, 1) := by decide +kernel
theorem dX10_leastSay_32 : decode cX10_leastSay 32 = .ok (.getfield 139, 3) := by decide +kernel
theorem dX10_leastSay_35 : decode cX10_leastSay 35 = .ok (.if_icmp .ge 39, 3) := by decide +kernel
theorem dX10_leastSay_38 : decode cX10_leastSay 38 = .ok (.iload_n 1, 1) := by decide +kernel
theorem dX10_leastSay_39 : decode cX10_leastSay 39 = .ok (.bipush 6, 2) := by decide +kernel
theorem dX10_leastSay_41 : decode cX10_leastSay 41 = .ok (.if_icmp .ge 33, 3) := by decide +kernel
theorem dX10_leastSay_44 : decode cX10_leastSay 44 = .ok (.aload_n 0, 1) := by decide +kernel
theorem dX10_leastSay_45 : decode cX10_leastSay 45 = .ok (.iload 6, 2) := by decide +kernel
theorem dX10_leastSay_47 : decode cX10_leastSay 47 = .ok (.iload_n 1, 1) := by decide +kernel
theorem dX10_leastSay_48 : decode cX10_leastSay 48 = .ok (.iload_n 2, 1) := by decide +kernel
theorem dX10_leastSay_49 : decode cX10_leastSay 49 = .ok (.iload_n 3, 1) := by decide +kernel
theorem dX10_leastSay_50 : decode cX10_leastSay 50 = .ok (.iload 4, 2) := by decide +kernel
theorem dX10_leastSay_52 : decode cX10_leastSay 52 = .ok (.invokevirtual 314, 3) := by decide +kernel
theorem dX10_leastSay_55 : decode cX10_leastSay 55 = .ok (.istore 7, 2) := by decide +kernel
theorem dX10_leastSay_57 : decode cX10_leastSay 57 = .ok (.iload 7, 2) := by decide +kernel
theorem dX10_leastSay_59 : decode cX10_leastSay 59 = .ok (.iload 5, 2) := by decide +kernel
theorem dX10_leastSay_61 : decode cX10_leastSay 61 = .ok (.if_icmp .ge 7, 3) := by decide +kernel
theorem dX10_leastSay_64 : decode cX10_leastSay 64 = .ok (.iload 7, 2) := by decide +kernel
theorem dX10_leastSay_66 : decode cX10_leastSay 66 = .ok (.istore 5, 2) := by decide +kernel
theorem dX10_leastSay_68 : decode cX10_leastSay 68 = .ok (.iinc 6 1, 3) := by decide +kernel
theorem dX10_leastSay_71 : decode cX10_leastSay 71 = .ok (.goto (-42), 3) := by decide +kernel
theorem dX10_leastSay_74 : decode cX10_leastSay 74 = .ok (.iload 5, 2) := by decide +kernel
theorem dX10_leastSay_76 : decode cX10_leastSay 76 = .ok (.ireturn, 1) := by decide +kernel
theorem dX10_say_0 : decode cX10_say 0 = .ok (.iload_n 1, 1) := by decide +kernel
theorem dX10_say_1 : decode cX10_say 1 = .ok (.iconst 0, 1) := by decide +kernel
theorem dX10_say_2 : decode cX10_say 2 = .ok (.sipush 4095, 3) := by decide +kernel
theorem dX10_say_5 : decode cX10_say 5 = .ok (.invokestatic 142, 3) := by decide +kernel
theorem dX10_say_8 : decode cX10_say 8 = .ok (.ifCond .eq 9, 3) := by decide +kernel
theorem dX10_say_11 : decode cX10_say 11 = .ok (.iload_n 2, 1) := by decide +kernel
theorem dX10_say_12 : decode cX10_say 12 = .ok (.bipush (-2), 2) := by decide +kernel
theorem dX10_say_14 : decode cX10_say 14 = .ok (.if_icmp .ge 5, 3) := by decide +kernel
theorem dX10_say_17 : decode cX10_say 17 = .ok (.iconst (-1), 1) := by decide +kernel
theorem dX10_say_18 : decode cX10_say 18 = .ok (.ireturn, 1) := by decide +kernel
theorem dX10_say_19 : decode cX10_say 19 = .ok (.aload_n 0, 1) := by decide +kernel
theorem dX10_say_20 : decode cX10_say 20 = .ok (.iload_n 1, 1) := by decide +kernel
theorem dX10_say_21 : decode cX10_say 21 = .ok (.bipush 64, 2) := by decide +kernel
theorem dX10_say_23 : decode cX10_say 23 = .ok (.idiv, 1) := by decide +kernel
theorem dX10_say_24 : decode cX10_say 24 = .ok (.iload_n 1, 1) := by decide +kernel
theorem dX10_say_25 : decode cX10_say 25 = .ok (.bipush 64, 2) := by decide +kernel
theorem dX10_say_27 : decode cX10_say 27 = .ok (.irem, 1) := by decide +kernel
theorem dX10_say_28 : decode cX10_say 28 = .ok (.invokevirtual 318, 3) := by decide +kernel
theorem dX10_say_31 : decode cX10_say 31 = .ok (.aload_n 0, 1) := by decide +kernel
theorem dX10_say_32 : decode cX10_say 32 = .ok (.getfield 83, 3) := by decide +kernel
theorem dX10_say_35 : decode cX10_say 35 = .ok (.iconst 0, 1) := by decide +kernel
theorem dX10_say_36 : decode cX10_say 36 = .ok (.iconst 3, 1) := by decide +kernel
theorem dX10_say_37 : decode cX10_say 37 = .ok (.iconst 0, 1) := by decide +kernel
theorem dX10_say_38 : decode cX10_say 38 = .ok (.iconst 0, 1) := by decide +kernel
theorem dX10_say_39 : decode cX10_say 39 = .ok (.invokestatic 304, 3) := by decide +kernel
theorem dX10_say_42 : decode cX10_say 42 = .ok (.iaload, 1) := by decide +kernel
theorem dX10_say_43 : decode cX10_say 43 = .ok (.istore_n 3, 1) := by decide +kernel
theorem dX10_say_44 : decode cX10_say 44 = .ok (.iload_n 3, 1) := by decide +kernel
theorem dX10_say_45 : decode cX10_say 45 = .ok (.ldc_w 281, 3) := by decide +kernel
theorem dX10_say_48 : decode cX10_say 48 = .ok (.if_icmp .ge 11, 3) := by decide +kernel
theorem dX10_say_51 : decode cX10_say 51 = .ok (.iload_n 2, 1) := by decide +kernel
theorem dX10_say_52 : decode cX10_say 52 = .ok (.iload_n 3, 1) := by decide +kernel
theorem dX10_say_53 : decode cX10_say 53 = .ok (.bipush 16, 2) := by decide +kernel
theorem dX10_say_55 : decode cX10_say 55 = .ok (.irem, 1) := by decide +kernel
theorem dX10_say_56 : decode cX10_say 56 = .ok (.if_icmp .lt 6, 3) := by decide +kernel
theorem dX10_say_59 : decode cX10_say 59 = .ok (.bipush (-2), 2) := by decide +kernel
theorem dX10_say_61 : decode cX10_say 61 = .ok (.ireturn, 1) := by decide +kernel
theorem dX10_say_62 : decode cX10_say 62 = .ok (.iload_n 2, 1) := by decide +kernel
theorem dX10_say_63 : decode cX10_say 63 = .ok (.iconst (-1), 1) := by decide +kernel
theorem dX10_say_64 : decode cX10_say 64 = .ok (.if_icmp .ne 8, 3) := by decide +kernel
theorem dX10_say_67 : decode cX10_say 67 = .ok (.iload_n 3, 1) := by decide +kernel
theorem dX10_say_68 : decode cX10_say 68 = .ok (.bipush 16, 2) := by decide +kernel
theorem dX10_say_70 : decode cX10_say 70 = .ok (.idiv, 1) := by decide +kernel
theorem dX10_say_71 : decode cX10_say 71 = .ok (.ireturn, 1) := by decide +kernel
theorem dX10_say_72 : decode cX10_say 72 = .ok (.iload_n 2, 1) := by decide +kernel
theorem dX10_say_73 : decode cX10_say 73 = .ok (.bipush (-2), 2) := by decide +kernel
theorem dX10_say_75 : decode cX10_say 75 = .ok (.if_icmp .ne 8, 3) := by decide +kernel
theorem dX10_say_78 : decode cX10_say 78 = .ok (.iload_n 3, 1) := by decide +kernel
theorem dX10_say_79 : decode cX10_say 79 = .ok (.bipush 16, 2) := by decide +kernel
theorem dX10_say_81 : decode cX10_say 81 = .ok (.irem, 1) := by decide +kernel
theorem dX10_say_82 : decode cX10_say 82 = .ok (.ireturn, 1) := by decide +kernel
theorem dX10_say_83 : decode cX10_say 83 = .ok (.iconst 3, 1) := by decide +kernel
theorem dX10_say_84 : decode cX10_say 84 = .ok (.istore 4, 2) := by decide +kernel
theorem dX10_say_86 : decode cX10_say 86 = .ok (.iconst 0, 1) := by decide +kernel
theorem dX10_say_87 : decode cX10_say 87 = .ok (.istore 5, 2) := by decide +kernel
theorem dX10_say_89 : decode cX10_say 89 = .ok (.iconst 0, 1) := by decide +kernel
theorem dX10_say_90 : decode cX10_say 90 = .ok (.istore 6, 2) := by decide +kernel
theorem dX10_say_92 : decode cX10_say 92 = .ok (.iconst 0, 1) := by decide +kernel
theorem dX10_say_93 : decode cX10_say 93 = .ok (.istore 7, 2) := by decide +kernel
theorem dX10_say_95 : decode cX10_say 95 = .ok (.iload 7, 2) := by decide +kernel
theorem dX10_say_97 : decode cX10_say 97 = .ok (.iload_n 2, 1) := by decide +kernel
theorem dX10_say_98 : decode cX10_say 98 = .ok (.if_icmp .gt 90, 3) := by decide +kernel
theorem dX10_say_101 : decode cX10_say 101 = .ok (.iconst 0, 1) := by decide +kernel
theorem dX10_say_102 : decode cX10_say 102 = .ok (.istore 8, 2) := by decide +kernel
theorem dX10_say_104 : decode cX10_say 104 = .ok (.aload_n 0, 1) := by decide +kernel
theorem dX10_say_105 : decode cX10_say 105 = .ok (.iload 8, 2) := by decide +kernel
theorem dX10_say_107 : decode cX10_say 107 = .ok (.iload 7, 2) := by decide +kernel
theorem dX10_say_109 : decode cX10_say 109 = .ok (.iload 4, 2) := by decide +kernel
theorem dX10_say_111 : decode cX10_say 111 = .ok (.iload 5, 2) := by decide +kernel
theorem dX10_say_113 : decode cX10_say 113 = .ok (.iload 6, 2) := by decide +kernel
theorem dX10_say_115 : decode cX10_say 115 = .ok (.invokevirtual 314, 3) := by decide +kernel
theorem dX10_say_118 : decode cX10_say 118 = .ok (.aload_n 0, 1) := by decide +kernel
theorem dX10_say_119 : decode cX10_say 119 = .ok (.getfield 83, 3) := by decide +kernel
theorem dX10_say_122 : decode cX10_say 122 = .ok (.iload 7, 2) := by decide +kernel
theorem dX10_say_124 : decode cX10_say 124 = .ok (.iload 4, 2) := by decide +kernel
theorem dX10_say_126 : decode cX10_say 126 = .ok (.iload 5, 2) := by decide +kernel
theorem dX10_say_128 : decode cX10_say 128 = .ok (.iload 6, 2) := by decide +kernel
theorem dX10_say_130 : decode cX10_say 130 = .ok (.invokestatic 304, 3) := by decide +kernel
theorem dX10_say_133 : decode cX10_say 133 = .ok (.iaload, 1) := by decide +kernel
theorem dX10_say_134 : decode cX10_say 134 = .ok (.if_icmp .eq 9, 3) := by decide +kernel
theorem dX10_say_137 : decode cX10_say 137 = .ok (.iinc 8 1, 3) := by decide +kernel
theorem dX10_say_140 : decode cX10_say 140 = .ok (.goto (-36), 3) := by decide +kernel
theorem dX10_say_143 : decode cX10_say 143 = .ok (.iload 7, 2) := by decide +kernel
theorem dX10_say_145 : decode cX10_say 145 = .ok (.iload_n 2, 1) := by decide +kernel
theorem dX10_say_146 : decode cX10_say 146 = .ok (.if_icmp .ne 6, 3) := by decide +kernel
theorem dX10_say_149 : decode cX10_say 149 = .ok (.iload 8, 2) := by decide +kernel
theorem dX10_say_151 : decode cX10_say 151 = .ok (.ireturn, 1) := by decide +kernel
theorem dX10_say_152 : decode cX10_say 152 = .ok (.aload_n 0, 1) := by decide +kernel
theorem dX10_say_153 : decode cX10_say 153 = .ok (.getfield 18, 3) := by decide +kernel
theorem dX10_say_156 : decode cX10_say 156 = .ok (.iload 8, 2) := by decide +kernel
theorem dX10_say_158 : decode cX10_say 158 = .ok (.iaload, 1) := by decide +kernel
theorem dX10_say_159 : decode cX10_say 159 = .ok (.istore 4, 2) := by decide +kernel
theorem dX10_say_161 : decode cX10_say 161 = .ok (.iload 4, 2) := by decide +kernel
theorem dX10_say_163 : decode cX10_say 163 = .ok (.iconst 1, 1) := by decide +kernel
theorem dX10_say_164 : decode cX10_say 164 = .ok (.if_icmp .ne 6, 3) := by decide +kernel
theorem dX10_say_167 : decode cX10_say 167 = .ok (.iconst 1, 1) := by decide +kernel
theorem dX10_say_168 : decode cX10_say 168 = .ok (.istore 5, 2) := by decide +kernel
theorem dX10_say_170 : decode cX10_say 170 = .ok (.iload 6, 2) := by decide +kernel
theorem dX10_say_172 : decode cX10_say 172 = .ok (.aload_n 0, 1) := by decide +kernel
theorem dX10_say_173 : decode cX10_say 173 = .ok (.getfield 15, 3) := by decide +kernel
theorem dX10_say_176 : decode cX10_say 176 = .ok (.iload 8, 2) := by decide +kernel
theorem dX10_say_178 : decode cX10_say 178 = .ok (.iaload, 1) := by decide +kernel
theorem dX10_say_179 : decode cX10_say 179 = .ok (.ior, 1) := by decide +kernel
theorem dX10_say_180 : decode cX10_say 180 = .ok (.istore 6, 2) := by decide +kernel
theorem dX10_say_182 : decode cX10_say 182 = .ok (.iinc 7 1, 3) := by decide +kernel
theorem dX10_say_185 : decode cX10_say 185 = .ok (.goto (-90), 3) := by decide +kernel
theorem dX10_say_188 : decode cX10_say 188 = .ok (.bipush (-2), 2) := by decide +kernel
theorem dX10_say_190 : decode cX10_say 190 = .ok (.ireturn, 1) := by decide +kernel
theorem dX10_nowAt_0 : decode cX10_nowAt 0 = .ok (.iload_n 0, 1) := by decide +kernel
theorem dX10_nowAt_1 : decode cX10_nowAt 1 = .ok (.iconst 2, 1) := by decide +kernel
theorem dX10_nowAt_2 : decode cX10_nowAt 2 = .ok (.imul, 1) := by decide +kernel
theorem dX10_nowAt_3 : decode cX10_nowAt 3 = .ok (.iload_n 1, 1) := by decide +kernel
theorem dX10_nowAt_4 : decode cX10_nowAt 4 = .ok (.iadd, 1) := by decide +kernel
theorem dX10_nowAt_5 : decode cX10_nowAt 5 = .ok (.bipush 64, 2) := by decide +kernel
theorem dX10_nowAt_7 : decode cX10_nowAt 7 = .ok (.imul, 1) := by decide +kernel
theorem dX10_nowAt_8 : decode cX10_nowAt 8 = .ok (.iload_n 2, 1) := by decide +kernel
theorem dX10_nowAt_9 : decode cX10_nowAt 9 = .ok (.iadd, 1) := by decide +kernel
theorem dX10_nowAt_10 : decode cX10_nowAt 10 = .ok (.ireturn, 1) := by decide +kernel
theorem dX10_goPlace_0 : decode cX10_goPlace 0 = .ok (.iconst 0, 1) := by decide +kernel
theorem dX10_goPlace_1 : decode cX10_goPlace 1 = .ok (.istore_n 2, 1) := by decide +kernel
theorem dX10_goPlace_2 : decode cX10_goPlace 2 = .ok (.iload_n 2, 1) := by decide +kernel
theorem dX10_goPlace_3 : decode cX10_goPlace 3 = .ok (.sipush 512, 3) := by decide +kernel
theorem dX10_goPlace_6 : decode cX10_goPlace 6 = .ok (.if_icmp .ge 18, 3) := by decide +kernel
theorem dX10_goPlace_9 : decode cX10_goPlace 9 = .ok (.aload_n 0, 1) := by decide +kernel
theorem dX10_goPlace_10 : decode cX10_goPlace 10 = .ok (.getfield 89, 3) := by decide +kernel
theorem dX10_goPlace_13 : decode cX10_goPlace 13 = .ok (.iload_n 2, 1) := by decide +kernel
theorem dX10_goPlace_14 : decode cX10_goPlace 14 = .ok (.ldc_w 281, 3) := by decide +kernel
theorem dX10_goPlace_17 : decode cX10_goPlace 17 = .ok (.iastore, 1) := by decide +kernel
theorem dX10_goPlace_18 : decode cX10_goPlace 18 = .ok (.iinc 2 1, 3) := by decide +kernel
theorem dX10_goPlace_21 : decode cX10_goPlace 21 = .ok (.goto (-19), 3) := by decide +kernel
theorem dX10_goPlace_24 : decode cX10_goPlace 24 = .ok (.iconst 0, 1) := by decide +kernel
theorem dX10_goPlace_25 : decode cX10_goPlace 25 = .ok (.istore_n 2, 1) := by decide +kernel
theorem dX10_goPlace_26 : decode cX10_goPlace 26 = .ok (.iload_n 2, 1) := by decide +kernel
theorem dX10_goPlace_27 : decode cX10_goPlace 27 = .ok (.iconst 4, 1) := by decide +kernel
theorem dX10_goPlace_28 : decode cX10_goPlace 28 = .ok (.if_icmp .ge 65, 3) := by decide +kernel
theorem dX10_goPlace_31 : decode cX10_goPlace 31 = .ok (.iconst 0, 1) := by decide +kernel
theorem dX10_goPlace_32 : decode cX10_goPlace 32 = .ok (.istore_n 3, 1) := by decide +kernel
theorem dX10_goPlace_33 : decode cX10_goPlace 33 = .ok (.iload_n 3, 1) := by decide +kernel
theorem dX10_goPlace_34 : decode cX10_goPlace 34 = .ok (.iconst 2, 1) := by decide +kernel
theorem dX10_goPlace_35 : decode cX10_goPlace 35 = .ok (.if_icmp .ge 52, 3) := by decide +kernel
theorem dX10_goPlace_38 : decode cX10_goPlace 38 = .ok (.iconst 0, 1) := by decide +kernel
theorem dX10_goPlace_39 : decode cX10_goPlace 39 = .ok (.istore 4, 2) := by decide +kernel
theorem dX10_goPlace_41 : decode cX10_goPlace 41 = .ok (.iload 4, 2) := by decide +kernel
theorem dX10_goPlace_43 : decode cX10_goPlace 43 = .ok (.bipush 64, 2) := by decide +kernel
theorem dX10_goPlace_45 : decode cX10_goPlace 45 = .ok (.if_icmp .ge 36, 3) := by decide +kernel
theorem dX10_goPlace_48 : decode cX10_goPlace 48 = .ok (.aload_n 0, 1) := by decide +kernel
theorem dX10_goPlace_49 : decode cX10_goPlace 49 = .ok (.getfield 86, 3) := by decide +kernel
theorem dX10_goPlace_52 : decode cX10_goPlace 52 = .ok (.iload_n 2, 1) := by decide +kernel
theorem dX10_goPlace_53 : decode cX10_goPlace 53 = .ok (.iload_n 3, 1) := by decide +kernel
theorem dX10_goPlace_54 : decode cX10_goPlace 54 = .ok (.iload 4, 2) := by decide +kernel
theorem dX10_goPlace_56 : decode cX10_goPlace 56 = .ok (.invokestatic 321, 3) := by decide +kernel
theorem dX10_goPlace_59 : decode cX10_goPlace 59 = .ok (.iaload, 1) := by decide +kernel
theorem dX10_goPlace_60 : decode cX10_goPlace 60 = .ok (.ldc_w 281, 3) := by decide +kernel
theorem dX10_goPlace_63 : decode cX10_goPlace 63 = .ok (.if_icmp .ge 12, 3) := by decide +kernel
theorem dX10_goPlace_66 : decode cX10_goPlace 66 = .ok (.aload_n 0, 1) := by decide +kernel
theorem dX10_goPlace_67 : decode cX10_goPlace 67 = .ok (.iload_n 1, 1) := by decide +kernel
theorem dX10_goPlace_68 : decode cX10_goPlace 68 = .ok (.iload_n 2, 1) := by decide +kernel
theorem dX10_goPlace_69 : decode cX10_goPlace 69 = .ok (.iload_n 3, 1) := by decide +kernel
theorem dX10_goPlace_70 : decode cX10_goPlace 70 = .ok (.iload 4, 2) := by decide +kernel
theorem dX10_goPlace_72 : decode cX10_goPlace 72 = .ok (.invokevirtual 324, 3) := by decide +kernel
theorem dX10_goPlace_75 : decode cX10_goPlace 75 = .ok (.iinc 4 1, 3) := by decide +kernel
theorem dX10_goPlace_78 : decode cX10_goPlace 78 = .ok (.goto (-37), 3) := by decide +kernel
theorem dX10_goPlace_81 : decode cX10_goPlace 81 = .ok (.iinc 3 1, 3) := by decide +kernel
theorem dX10_goPlace_84 : decode cX10_goPlace 84 = .ok (.goto (-51), 3) := by decide +kernel
theorem dX10_goPlace_87 : decode cX10_goPlace 87 = .ok (.iinc 2 1, 3) := by decide +kernel
theorem dX10_goPlace_90 : decode cX10_goPlace 90 = .ok (.goto (-64), 3) := by decide +kernel
theorem dX10_goPlace_93 : decode cX10_goPlace 93 = .ok (.iconst 0, 1) := by decide +kernel
theorem dX10_goPlace_94 : decode cX10_goPlace 94 = .ok (.istore_n 2, 1) := by decide +kernel
theorem dX10_goPlace_95 : decode cX10_goPlace 95 = .ok (.iload_n 2, 1) := by decide +kernel
theorem dX10_goPlace_96 : decode cX10_goPlace 96 = .ok (.sipush 512, 3) := by decide +kernel
theorem dX10_goPlace_99 : decode cX10_goPlace 99 = .ok (.if_icmp .ge 21, 3) := by decide +kernel
theorem dX10_goPlace_102 : decode cX10_goPlace 102 = .ok (.aload_n 0, 1) := by decide +kernel
theorem dX10_goPlace_103 : decode cX10_goPlace 103 = .ok (.getfield 86, 3) := by decide +kernel
theorem dX10_goPlace_106 : decode cX10_goPlace 106 = .ok (.iload_n 2, 1) := by decide +kernel
theorem dX10_goPlace_107 : decode cX10_goPlace 107 = .ok (.aload_n 0, 1) := by decide +kernel
theorem dX10_goPlace_108 : decode cX10_goPlace 108 = .ok (.getfield 89, 3) := by decide +kernel
theorem dX10_goPlace_111 : decode cX10_goPlace 111 = .ok (.iload_n 2, 1) := by decide +kernel
theorem dX10_goPlace_112 : decode cX10_goPlace 112 = .ok (.iaload, 1) := by decide +kernel
theorem dX10_goPlace_113 : decode cX10_goPlace 113 = .ok (.iastore, 1) := by decide +kernel
theorem dX10_goPlace_114 : decode cX10_goPlace 114 = .ok (.iinc 2 1, 3) := by decide +kernel
theorem dX10_goPlace_117 : decode cX10_goPlace 117 = .ok (.goto (-22), 3) := by decide +kernel
theorem dX10_goPlace_120 : decode cX10_goPlace 120 = .ok (.return_, 1) := by decide +kernel
theorem dX10_goFrom_0 : decode cX10_goFrom 0 = .ok (.iconst 0, 1) := by decide +kernel
theorem dX10_goFrom_1 : decode cX10_goFrom 1 = .ok (.istore 5, 2) := by decide +kernel
theorem dX10_goFrom_3 : decode cX10_goFrom 3 = .ok (.iload 5, 2) := by decide +kernel
theorem dX10_goFrom_5 : decode cX10_goFrom 5 = .ok (.aload_n 0, 1) := by decide +kernel
theorem dX10_goFrom_6 : decode cX10_goFrom 6 = .ok (.getfield 139, 3) := by decide +kernel
theorem dX10_goFrom_9 : decode cX10_goFrom 9 = .ok (.if_icmp .ge 108, 3) := by decide +kernel
theorem dX10_goFrom_12 : decode cX10_goFrom 12 = .ok (.aload_n 0, 1) := by decide +kernel
theorem dX10_goFrom_13 : decode cX10_goFrom 13 = .ok (.getfield 18, 3) := by decide +kernel
theorem dX10_goFrom_16 : decode cX10_goFrom 16 = .ok (.iload 5, 2) := by decide +kernel
theorem dX10_goFrom_18 : decode cX10_goFrom 18 = .ok (.iaload, 1) := by decide +kernel
theorem dX10_goFrom_19 : decode cX10_goFrom 19 = .ok (.iload_n 2, 1) := by decide +kernel
theorem dX10_goFrom_20 : decode cX10_goFrom 20 = .ok (.invokestatic 278, 3) := by decide +kernel
theorem dX10_goFrom_23 : decode cX10_goFrom 23 = .ok (.ifCond .ne 6, 3) := by decide +kernel
theorem dX10_goFrom_26 : decode cX10_goFrom 26 = .ok (.goto 85, 3) := by decide +kernel
theorem dX10_goFrom_29 : decode cX10_goFrom 29 = .ok (.aload_n 0, 1) := by decide +kernel
theorem dX10_goFrom_30 : decode cX10_goFrom 30 = .ok (.getfield 18, 3) := by decide +kernel
theorem dX10_goFrom_33 : decode cX10_goFrom 33 = .ok (.iload 5, 2) := by decide +kernel
theorem dX10_goFrom_35 : decode cX10_goFrom 35 = .ok (.iaload, 1) := by decide +kernel
theorem dX10_goFrom_36 : decode cX10_goFrom 36 = .ok (.aload_n 0, 1) := by decide +kernel
theorem dX10_goFrom_37 : decode cX10_goFrom 37 = .ok (.getfield 18, 3) := by decide +kernel
theorem dX10_goFrom_40 : decode cX10_goFrom 40 = .ok (.iload 5, 2) := by decide +kernel
theorem dX10_goFrom_42 : decode cX10_goFrom 42 = .ok (.iaload, 1) := by decide +kernel
theorem dX10_goFrom_43 : decode cX10_goFrom 43 = .ok (.iconst 1, 1) := by decide +kernel
theorem dX10_goFrom_44 : decode cX10_goFrom 44 = .ok (.if_icmp .ne 7, 3) := by decide +kernel
theorem dX10_goFrom_47 : decode cX10_goFrom 47 = .ok (.iconst 1, 1) := by decide +kernel
theorem dX10_goFrom_48 : decode cX10_goFrom 48 = .ok (.goto 4, 3) := by decide +kernel
theorem dX10_goFrom_51 : decode cX10_goFrom 51 = .ok (.iload_n 3, 1) := by decide +kernel
theorem dX10_goFrom_52 : decode cX10_goFrom 52 = .ok (.iload 4, 2) := by decide +kernel
theorem dX10_goFrom_54 : decode cX10_goFrom 54 = .ok (.aload_n 0, 1) := by decide +kernel
theorem dX10_goFrom_55 : decode cX10_goFrom 55 = .ok (.getfield 15, 3) := by decide +kernel
theorem dX10_goFrom_58 : decode cX10_goFrom 58 = .ok (.iload 5, 2) := by decide +kernel
theorem dX10_goFrom_60 : decode cX10_goFrom 60 = .ok (.iaload, 1) := by decide +kernel
theorem dX10_goFrom_61 : decode cX10_goFrom 61 = .ok (.ior, 1) := by decide +kernel
theorem dX10_goFrom_62 : decode cX10_goFrom 62 = .ok (.invokestatic 321, 3) := by decide +kernel
theorem dX10_goFrom_65 : decode cX10_goFrom 65 = .ok (.istore 6, 2) := by decide +kernel
theorem dX10_goFrom_67 : decode cX10_goFrom 67 = .ok (.aload_n 0, 1) := by decide +kernel
theorem dX10_goFrom_68 : decode cX10_goFrom 68 = .ok (.getfield 86, 3) := by decide +kernel
theorem dX10_goFrom_71 : decode cX10_goFrom 71 = .ok (.iload_n 2, 1) := by decide +kernel
theorem dX10_goFrom_72 : decode cX10_goFrom 72 = .ok (.iload_n 3, 1) := by decide +kernel
theorem dX10_goFrom_73 : decode cX10_goFrom 73 = .ok (.iload 4, 2) := by decide +kernel
theorem dX10_goFrom_75 : decode cX10_goFrom 75 = .ok (.invokestatic 321, 3) := by decide +kernel
theorem dX10_goFrom_78 : decode cX10_goFrom 78 = .ok (.iaload, 1) := by decide +kernel
theorem dX10_goFrom_79 : decode cX10_goFrom 79 = .ok (.aload_n 0, 1) := by decide +kernel
theorem dX10_goFrom_80 : decode cX10_goFrom 80 = .ok (.iload 5, 2) := by decide +kernel
theorem dX10_goFrom_82 : decode cX10_goFrom 82 = .ok (.iload_n 2, 1) := by decide +kernel
theorem dX10_goFrom_83 : decode cX10_goFrom 83 = .ok (.iload_n 1, 1) := by decide +kernel
theorem dX10_goFrom_84 : decode cX10_goFrom 84 = .ok (.invokevirtual 263, 3) := by decide +kernel
theorem dX10_goFrom_87 : decode cX10_goFrom 87 = .ok (.iadd, 1) := by decide +kernel
theorem dX10_goFrom_88 : decode cX10_goFrom 88 = .ok (.istore 7, 2) := by decide +kernel
theorem dX10_goFrom_90 : decode cX10_goFrom 90 = .ok (.iload 7, 2) := by decide +kernel
theorem dX10_goFrom_92 : decode cX10_goFrom 92 = .ok (.aload_n 0, 1) := by decide +kernel
theorem dX10_goFrom_93 : decode cX10_goFrom 93 = .ok (.getfield 89, 3) := by decide +kernel
theorem dX10_goFrom_96 : decode cX10_goFrom 96 = .ok (.iload 6, 2) := by decide +kernel
theorem dX10_goFrom_98 : decode cX10_goFrom 98 = .ok (.iaload, 1) := by decide +kernel
theorem dX10_goFrom_99 : decode cX10_goFrom 99 = .ok (.if_icmp .ge 12, 3) := by decide +kernel
theorem dX10_goFrom_102 : decode cX10_goFrom 102 = .ok (.aload_n 0, 1) := by decide +kernel
theorem dX10_goFrom_103 : decode cX10_goFrom 103 = .ok (.getfield 89, 3) := by decide +kernel
theorem dX10_goFrom_106 : decode cX10_goFrom 106 = .ok (.iload 6, 2) := by decide +kernel
theorem dX10_goFrom_108 : decode cX10_goFrom 108 = .ok (.iload 7, 2) := by decide +kernel
theorem dX10_goFrom_110 : decode cX10_goFrom 110 = .ok (.iastore, 1) := by decide +kernel
theorem dX10_goFrom_111 : decode cX10_goFrom 111 = .ok (.iinc 5 1, 3) := by decide +kernel
theorem dX10_goFrom_114 : decode cX10_goFrom 114 = .ok (.goto (-111), 3) := by decide +kernel
theorem dX10_goFrom_117 : decode cX10_goFrom 117 = .ok (.return_, 1) := by decide +kernel
theorem dX10_findLeast_0 : decode cX10_findLeast 0 = .ok (.iconst 0, 1) := by decide +kernel
theorem dX10_findLeast_1 : decode cX10_findLeast 1 = .ok (.istore_n 1, 1) := by decide +kernel
theorem dX10_findLeast_2 : decode cX10_findLeast 2 = .ok (.iload_n 1, 1) := by decide +kernel
theorem dX10_findLeast_3 : decode cX10_findLeast 3 = .ok (.bipush 64, 2) := by decide +kernel
theorem dX10_findLeast_5 : decode cX10_findLeast 5 = .ok (.if_icmp .ge 18, 3) := by decide +kernel
theorem dX10_findLeast_8 : decode cX10_findLeast 8 = .ok (.aload_n 0, 1) := by decide +kernel
theorem dX10_findLeast_9 : decode cX10_findLeast 9 = .ok (.getfield 92, 3) := by decide +kernel
theorem dX10_findLeast_12 : decode cX10_findLeast 12 = .ok (.iload_n 1, 1) := by decide +kernel
theorem dX10_findLeast_13 : decode cX10_findLeast 13 = .ok (.ldc_w 281, 3) := by decide +kernel
theorem dX10_findLeast_16 : decode cX10_findLeast 16 = .ok (.iastore, 1) := by decide +kernel
theorem dX10_findLeast_17 : decode cX10_findLeast 17 = .ok (.iinc 1 1, 3) := by decide +kernel
theorem dX10_findLeast_20 : decode cX10_findLeast 20 = .ok (.goto (-18), 3) := by decide +kernel
theorem dX10_findLeast_23 : decode cX10_findLeast 23 = .ok (.iconst 0, 1) := by decide +kernel
theorem dX10_findLeast_24 : decode cX10_findLeast 24 = .ok (.istore_n 1, 1) := by decide +kernel
theorem dX10_findLeast_25 : decode cX10_findLeast 25 = .ok (.iload_n 1, 1) := by decide +kernel
theorem dX10_findLeast_26 : decode cX10_findLeast 26 = .ok (.sipush 512, 3) := by decide +kernel
theorem dX10_findLeast_29 : decode cX10_findLeast 29 = .ok (.if_icmp .ge 18, 3) := by decide +kernel
theorem dX10_findLeast_32 : decode cX10_findLeast 32 = .ok (.aload_n 0, 1) := by decide +kernel
theorem dX10_findLeast_33 : decode cX10_findLeast 33 = .ok (.getfield 86, 3) := by decide +kernel
theorem dX10_findLeast_36 : decode cX10_findLeast 36 = .ok (.iload_n 1, 1) := by decide +kernel
theorem dX10_findLeast_37 : decode cX10_findLeast 37 = .ok (.ldc_w 281, 3) := by decide +kernel
theorem dX10_findLeast_40 : decode cX10_findLeast 40 = .ok (.iastore, 1) := by decide +kernel
theorem dX10_findLeast_41 : decode cX10_findLeast 41 = .ok (.iinc 1 1, 3) := by decide +kernel
theorem dX10_findLeast_44 : decode cX10_findLeast 44 = .ok (.goto (-19), 3) := by decide +kernel
theorem dX10_findLeast_47 : decode cX10_findLeast 47 = .ok (.aload_n 0, 1) := by decide +kernel
theorem dX10_findLeast_48 : decode cX10_findLeast 48 = .ok (.getfield 86, 3) := by decide +kernel
theorem dX10_findLeast_51 : decode cX10_findLeast 51 = .ok (.iconst 3, 1) := by decide +kernel
theorem dX10_findLeast_52 : decode cX10_findLeast 52 = .ok (.iconst 0, 1) := by decide +kernel
theorem dX10_findLeast_53 : decode cX10_findLeast 53 = .ok (.iconst 0, 1) := by decide +kernel
theorem dX10_findLeast_54 : decode cX10_findLeast 54 = .ok (.invokestatic 321, 3) := by decide +kernel
theorem dX10_findLeast_57 : decode cX10_findLeast 57 = .ok (.iconst 0, 1) := by decide +kernel
theorem dX10_findLeast_58 : decode cX10_findLeast 58 = .ok (.iastore, 1) := by decide +kernel
theorem dX10_findLeast_59 : decode cX10_findLeast 59 = .ok (.iconst 0, 1) := by decide +kernel
theorem dX10_findLeast_60 : decode cX10_findLeast 60 = .ok (.istore_n 1, 1) := by decide +kernel
theorem dX10_findLeast_61 : decode cX10_findLeast 61 = .ok (.iload_n 1, 1) := by decide +kernel
theorem dX10_findLeast_62 : decode cX10_findLeast 62 = .ok (.bipush 6, 2) := by decide +kernel
theorem dX10_findLeast_64 : decode cX10_findLeast 64 = .ok (.if_icmp .ge 78, 3) := by decide +kernel
theorem dX10_findLeast_67 : decode cX10_findLeast 67 = .ok (.aload_n 0, 1) := by decide +kernel
theorem dX10_findLeast_68 : decode cX10_findLeast 68 = .ok (.iload_n 1, 1) := by decide +kernel
theorem dX10_findLeast_69 : decode cX10_findLeast 69 = .ok (.invokevirtual 328, 3) := by decide +kernel
theorem dX10_findLeast_72 : decode cX10_findLeast 72 = .ok (.iconst 0, 1) := by decide +kernel
theorem dX10_findLeast_73 : decode cX10_findLeast 73 = .ok (.istore_n 2, 1) := by decide +kernel
theorem dX10_findLeast_74 : decode cX10_findLeast 74 = .ok (.iload_n 2, 1) := by decide +kernel
theorem dX10_findLeast_75 : decode cX10_findLeast 75 = .ok (.iconst 3, 1) := by decide +kernel
theorem dX10_findLeast_76 : decode cX10_findLeast 76 = .ok (.if_icmp .ge 60, 3) := by decide +kernel
theorem dX10_findLeast_79 : decode cX10_findLeast 79 = .ok (.iconst 0, 1) := by decide +kernel
theorem dX10_findLeast_80 : decode cX10_findLeast 80 = .ok (.istore_n 3, 1) := by decide +kernel
theorem dX10_findLeast_81 : decode cX10_findLeast 81 = .ok (.iload_n 3, 1) := by decide +kernel
theorem dX10_findLeast_82 : decode cX10_findLeast 82 = .ok (.bipush 64, 2) := by decide +kernel
theorem dX10_findLeast_84 : decode cX10_findLeast 84 = .ok (.if_icmp .ge 46, 3) := by decide +kernel
theorem dX10_findLeast_87 : decode cX10_findLeast 87 = .ok (.aload_n 0, 1) := by decide +kernel
theorem dX10_findLeast_88 : decode cX10_findLeast 88 = .ok (.getfield 86, 3) := by decide +kernel
theorem dX10_findLeast_91 : decode cX10_findLeast 91 = .ok (.iload_n 2, 1) := by decide +kernel
theorem dX10_findLeast_92 : decode cX10_findLeast 92 = .ok (.iconst 1, 1) := by decide +kernel
theorem dX10_findLeast_93 : decode cX10_findLeast 93 = .ok (.iload_n 3, 1) := by decide +kernel
theorem dX10_findLeast_94 : decode cX10_findLeast 94 = .ok (.invokestatic 321, 3) := by decide +kernel
theorem dX10_findLeast_97 : decode cX10_findLeast 97 = .ok (.iaload, 1) := by decide +kernel
theorem dX10_findLeast_98 : decode cX10_findLeast 98 = .ok (.aload_n 0, 1) := by decide +kernel
theorem dX10_findLeast_99 : decode cX10_findLeast 99 = .ok (.getfield 92, 3) := by decide +kernel
theorem dX10_findLeast_102 : decode cX10_findLeast 102 = .ok (.iload_n 3, 1) := by decide +kernel
theorem dX10_findLeast_103 : decode cX10_findLeast 103 = .ok (.iaload, 1) := by decide +kernel
theorem dX10_findLeast_104 : decode cX10_findLeast 104 = .ok (.if_icmp .ge 20, 3) := by decide +kernel
theorem dX10_findLeast_107 : decode cX10_findLeast 107 = .ok (.aload_n 0, 1) := by decide +kernel
theorem dX10_findLeast_108 : decode cX10_findLeast 108 = .ok (.getfield 92, 3) := by decide +kernel
theorem dX10_findLeast_111 : decode cX10_findLeast 111 = .ok (.iload_n 3, 1) := by decide +kernel
theorem dX10_findLeast_112 : decode cX10_findLeast 112 = .ok (.aload_n 0, 1) := by decide +kernel
theorem dX10_findLeast_113 : decode cX10_findLeast 113 = .ok (.getfield 86, 3) := by decide +kernel
theorem dX10_findLeast_116 : decode cX10_findLeast 116 = .ok (.iload_n 2, 1) := by decide +kernel
theorem dX10_findLeast_117 : decode cX10_findLeast 117 = .ok (.iconst 1, 1) := by decide +kernel
theorem dX10_findLeast_118 : decode cX10_findLeast 118 = .ok (.iload_n 3, 1) := by decide +kernel
theorem dX10_findLeast_119 : decode cX10_findLeast 119 = .ok (.invokestatic 321, 3) := by decide +kernel
theorem dX10_findLeast_122 : decode cX10_findLeast 122 = .ok (.iaload, 1) := by decide +kernel
theorem dX10_findLeast_123 : decode cX10_findLeast 123 = .ok (.iastore, 1) := by decide +kernel
theorem dX10_findLeast_124 : decode cX10_findLeast 124 = .ok (.iinc 3 1, 3) := by decide +kernel
theorem dX10_findLeast_127 : decode cX10_findLeast 127 = .ok (.goto (-46), 3) := by decide +kernel
theorem dX10_findLeast_130 : decode cX10_findLeast 130 = .ok (.iinc 2 1, 3) := by decide +kernel
theorem dX10_findLeast_133 : decode cX10_findLeast 133 = .ok (.goto (-59), 3) := by decide +kernel
theorem dX10_findLeast_136 : decode cX10_findLeast 136 = .ok (.iinc 1 1, 3) := by decide +kernel
theorem dX10_findLeast_139 : decode cX10_findLeast 139 = .ok (.goto (-78), 3) := by decide +kernel
theorem dX10_findLeast_142 : decode cX10_findLeast 142 = .ok (.return_, 1) := by decide +kernel
theorem dX10_allFor_0 : decode cX10_allFor 0 = .ok (.iload_n 1, 1) := by decide +kernel
theorem dX10_allFor_1 : decode cX10_allFor 1 = .ok (.iconst 0, 1) := by decide +kernel
theorem dX10_allFor_2 : decode cX10_allFor 2 = .ok (.sipush 999, 3) := by decide +kernel
theorem dX10_allFor_5 : decode cX10_allFor 5 = .ok (.invokestatic 142, 3) := by decide +kernel
theorem dX10_allFor_8 : decode cX10_allFor 8 = .ok (.ifCond .eq 12, 3) := by decide +kernel
theorem dX10_allFor_11 : decode cX10_allFor 11 = .ok (.iload_n 2, 1) := by decide +kernel
theorem dX10_allFor_12 : decode cX10_allFor 12 = .ok (.iconst 0, 1) := by decide +kernel
theorem dX10_allFor_13 : decode cX10_allFor 13 = .ok (.iconst 1, 1) := by decide +kernel
theorem dX10_allFor_14 : decode cX10_allFor 14 = .ok (.invokestatic 142, 3) := by decide +kernel
theorem dX10_allFor_17 : decode cX10_allFor 17 = .ok (.ifCond .ne 5, 3) := by decide +kernel
theorem dX10_allFor_20 : decode cX10_allFor 20 = .ok (.iconst (-1), 1) := by decide +kernel
theorem dX10_allFor_21 : decode cX10_allFor 21 = .ok (.ireturn, 1) := by decide +kernel
theorem dX10_allFor_22 : decode cX10_allFor 22 = .ok (.aload_n 0, 1) := by decide +kernel
theorem dX10_allFor_23 : decode cX10_allFor 23 = .ok (.invokevirtual 331, 3) := by decide +kernel
theorem dX10_allFor_26 : decode cX10_allFor 26 = .ok (.bipush (-2), 2) := by decide +kernel
theorem dX10_allFor_28 : decode cX10_allFor 28 = .ok (.istore_n 3, 1) := by decide +kernel
theorem dX10_allFor_29 : decode cX10_allFor 29 = .ok (.iconst 0, 1) := by decide +kernel
theorem dX10_allFor_30 : decode cX10_allFor 30 = .ok (.istore 4, 2) := by decide +kernel
theorem dX10_allFor_32 : decode cX10_allFor 32 = .ok (.iload 4, 2) := by decide +kernel
theorem dX10_allFor_34 : decode cX10_allFor 34 = .ok (.bipush 64, 2) := by decide +kernel
theorem dX10_allFor_36 : decode cX10_allFor 36 = .ok (.if_icmp .ge 39, 3) := by decide +kernel
theorem dX10_allFor_39 : decode cX10_allFor 39 = .ok (.aload_n 0, 1) := by decide +kernel
theorem dX10_allFor_40 : decode cX10_allFor 40 = .ok (.getfield 92, 3) := by decide +kernel
theorem dX10_allFor_43 : decode cX10_allFor 43 = .ok (.iload 4, 2) := by decide +kernel
theorem dX10_allFor_45 : decode cX10_allFor 45 = .ok (.iaload, 1) := by decide +kernel
theorem dX10_allFor_46 : decode cX10_allFor 46 = .ok (.iload_n 1, 1) := by decide +kernel
theorem dX10_allFor_47 : decode cX10_allFor 47 = .ok (.if_icmp .gt 22, 3) := by decide +kernel
theorem dX10_allFor_50 : decode cX10_allFor 50 = .ok (.iload_n 3, 1) := by decide +kernel
theorem dX10_allFor_51 : decode cX10_allFor 51 = .ok (.ifCond .lt 15, 3) := by decide +kernel
theorem dX10_allFor_54 : decode cX10_allFor 54 = .ok (.iload 4, 2) := by decide +kernel
theorem dX10_allFor_56 : decode cX10_allFor 56 = .ok (.invokestatic 334, 3) := by decide +kernel
theorem dX10_allFor_59 : decode cX10_allFor 59 = .ok (.iload_n 3, 1) := by decide +kernel
theorem dX10_allFor_60 : decode cX10_allFor 60 = .ok (.invokestatic 334, 3) := by decide +kernel
theorem dX10_allFor_63 : decode cX10_allFor 63 = .ok (.if_icmp .le 6, 3) := by decide +kernel
theorem dX10_allFor_66 : decode cX10_allFor 66 = .ok (.iload 4, 2) := by decide +kernel
theorem dX10_allFor_68 : decode cX10_allFor 68 = .ok (.istore_n 3, 1) := by decide +kernel
theorem dX10_allFor_69 : decode cX10_allFor 69 = .ok (.iinc 4 1, 3) := by decide +kernel
theorem dX10_allFor_72 : decode cX10_allFor 72 = .ok (.goto (-40), 3) := by decide +kernel
theorem dX10_allFor_75 : decode cX10_allFor 75 = .ok (.iload_n 3, 1) := by decide +kernel
theorem dX10_allFor_76 : decode cX10_allFor 76 = .ok (.ifCond .lt 8, 3) := by decide +kernel
theorem dX10_allFor_79 : decode cX10_allFor 79 = .ok (.iload_n 2, 1) := by decide +kernel
theorem dX10_allFor_80 : decode cX10_allFor 80 = .ok (.iconst 1, 1) := by decide +kernel
theorem dX10_allFor_81 : decode cX10_allFor 81 = .ok (.if_icmp .ne 7, 3) := by decide +kernel
theorem dX10_allFor_84 : decode cX10_allFor 84 = .ok (.iload_n 3, 1) := by decide +kernel
theorem dX10_allFor_85 : decode cX10_allFor 85 = .ok (.goto 7, 3) := by decide +kernel
theorem dX10_allFor_88 : decode cX10_allFor 88 = .ok (.iload_n 3, 1) := by decide +kernel
theorem dX10_allFor_89 : decode cX10_allFor 89 = .ok (.invokestatic 334, 3) := by decide +kernel
theorem dX10_allFor_92 : decode cX10_allFor 92 = .ok (.ireturn, 1) := by decide +kernel
theorem dX10_tooDear_0 : decode cX10_tooDear 0 = .ok (.aload_n 0, 1) := by decide +kernel
theorem dX10_tooDear_1 : decode cX10_tooDear 1 = .ok (.iload_n 1, 1) := by decide +kernel
theorem dX10_tooDear_2 : decode cX10_tooDear 2 = .ok (.invokevirtual 176, 3) := by decide +kernel
theorem dX10_tooDear_5 : decode cX10_tooDear 5 = .ok (.ifCond .ne 5, 3) := by decide +kernel
theorem dX10_tooDear_8 : decode cX10_tooDear 8 = .ok (.iconst (-1), 1) := by decide +kernel
theorem dX10_tooDear_9 : decode cX10_tooDear 9 = .ok (.ireturn, 1) := by decide +kernel
theorem dX10_tooDear_10 : decode cX10_tooDear 10 = .ok (.aload_n 0, 1) := by decide +kernel
theorem dX10_tooDear_11 : decode cX10_tooDear 11 = .ok (.invokevirtual 331, 3) := by decide +kernel
theorem dX10_tooDear_14 : decode cX10_tooDear 14 = .ok (.iconst 0, 1) := by decide +kernel
theorem dX10_tooDear_15 : decode cX10_tooDear 15 = .ok (.istore_n 2, 1) := by decide +kernel
theorem dX10_tooDear_16 : decode cX10_tooDear 16 = .ok (.iconst 0, 1) := by decide +kernel
theorem dX10_tooDear_17 : decode cX10_tooDear 17 = .ok (.istore_n 3, 1) := by decide +kernel
theorem dX10_tooDear_18 : decode cX10_tooDear 18 = .ok (.iload_n 3, 1) := by decide +kernel
theorem dX10_tooDear_19 : decode cX10_tooDear 19 = .ok (.bipush 64, 2) := by decide +kernel
theorem dX10_tooDear_21 : decode cX10_tooDear 21 = .ok (.if_icmp .ge 28, 3) := by decide +kernel
theorem dX10_tooDear_24 : decode cX10_tooDear 24 = .ok (.aload_n 0, 1) := by decide +kernel
theorem dX10_tooDear_25 : decode cX10_tooDear 25 = .ok (.getfield 92, 3) := by decide +kernel
theorem dX10_tooDear_28 : decode cX10_tooDear 28 = .ok (.iload_n 3, 1) := by decide +kernel
theorem dX10_tooDear_29 : decode cX10_tooDear 29 = .ok (.iaload, 1) := by decide +kernel
theorem dX10_tooDear_30 : decode cX10_tooDear 30 = .ok (.aload_n 0, 1) := by decide +kernel
theorem dX10_tooDear_31 : decode cX10_tooDear 31 = .ok (.getfield 27, 3) := by decide +kernel
theorem dX10_tooDear_34 : decode cX10_tooDear 34 = .ok (.iload_n 1, 1) := by decide +kernel
theorem dX10_tooDear_35 : decode cX10_tooDear 35 = .ok (.iaload, 1) := by decide +kernel
theorem dX10_tooDear_36 : decode cX10_tooDear 36 = .ok (.if_icmp .gt 7, 3) := by decide +kernel
theorem dX10_tooDear_39 : decode cX10_tooDear 39 = .ok (.iload_n 2, 1) := by decide +kernel
theorem dX10_tooDear_40 : decode cX10_tooDear 40 = .ok (.iload_n 3, 1) := by decide +kernel
theorem dX10_tooDear_41 : decode cX10_tooDear 41 = .ok (.ior, 1) := by decide +kernel
theorem dX10_tooDear_42 : decode cX10_tooDear 42 = .ok (.istore_n 2, 1) := by decide +kernel
theorem dX10_tooDear_43 : decode cX10_tooDear 43 = .ok (.iinc 3 1, 3) := by decide +kernel
theorem dX10_tooDear_46 : decode cX10_tooDear 46 = .ok (.goto (-28), 3) := by decide +kernel
theorem dX10_tooDear_49 : decode cX10_tooDear 49 = .ok (.bipush 63, 2) := by decide +kernel
theorem dX10_tooDear_51 : decode cX10_tooDear 51 = .ok (.iload_n 2, 1) := by decide +kernel
theorem dX10_tooDear_52 : decode cX10_tooDear 52 = .ok (.iconst (-1), 1) := by decide +kernel
theorem dX10_tooDear_53 : decode cX10_tooDear 53 = .ok (.ixor, 1) := by decide +kernel
theorem dX10_tooDear_54 : decode cX10_tooDear 54 = .ok (.iand, 1) := by decide +kernel
theorem dX10_tooDear_55 : decode cX10_tooDear 55 = .ok (.ireturn, 1) := by decide +kernel
theorem dX10_year_0 : decode cX10_year 0 = .ok (.iload_n 1, 1) := by decide +kernel
theorem dX10_year_1 : decode cX10_year 1 = .ok (.invokestatic 153, 3) := by decide +kernel
theorem dX10_year_4 : decode cX10_year 4 = .ok (.ifCond .eq 20, 3) := by decide +kernel
theorem dX10_year_7 : decode cX10_year 7 = .ok (.aload_n 0, 1) := by decide +kernel
theorem dX10_year_8 : decode cX10_year 8 = .ok (.iload_n 2, 1) := by decide +kernel
theorem dX10_year_9 : decode cX10_year 9 = .ok (.invokevirtual 176, 3) := by decide +kernel
theorem dX10_year_12 : decode cX10_year 12 = .ok (.ifCond .eq 12, 3) := by decide +kernel
theorem dX10_year_15 : decode cX10_year 15 = .ok (.iload_n 3, 1) := by decide +kernel
theorem dX10_year_16 : decode cX10_year 16 = .ok (.iconst 0, 1) := by decide +kernel
theorem dX10_year_17 : decode cX10_year 17 = .ok (.iconst 1, 1) := by decide +kernel
theorem dX10_year_18 : decode cX10_year 18 = .ok (.invokestatic 142, 3) := by decide +kernel
theorem dX10_year_21 : decode cX10_year 21 = .ok (.ifCond .ne 5, 3) := by decide +kernel
theorem dX10_year_24 : decode cX10_year 24 = .ok (.iconst (-1), 1) := by decide +kernel
theorem dX10_year_25 : decode cX10_year 25 = .ok (.ireturn, 1) := by decide +kernel
theorem dX10_year_26 : decode cX10_year 26 = .ok (.aload_n 0, 1) := by decide +kernel
theorem dX10_year_27 : decode cX10_year 27 = .ok (.iload_n 1, 1) := by decide +kernel
theorem dX10_year_28 : decode cX10_year 28 = .ok (.iconst 1, 1) := by decide +kernel
theorem dX10_year_29 : decode cX10_year 29 = .ok (.invokevirtual 282, 3) := by decide +kernel
theorem dX10_year_32 : decode cX10_year 32 = .ok (.istore 4, 2) := by decide +kernel
theorem dX10_year_34 : decode cX10_year 34 = .ok (.iload 4, 2) := by decide +kernel
theorem dX10_year_36 : decode cX10_year 36 = .ok (.ifCond .ge 6, 3) := by decide +kernel
theorem dX10_year_39 : decode cX10_year 39 = .ok (.iload 4, 2) := by decide +kernel
theorem dX10_year_41 : decode cX10_year 41 = .ok (.ireturn, 1) := by decide +kernel
theorem dX10_year_42 : decode cX10_year 42 = .ok (.iconst 0, 1) := by decide +kernel
theorem dX10_year_43 : decode cX10_year 43 = .ok (.istore 5, 2) := by decide +kernel
theorem dX10_year_45 : decode cX10_year 45 = .ok (.iload 5, 2) := by decide +kernel
theorem dX10_year_47 : decode cX10_year 47 = .ok (.bipush 8, 2) := by decide +kernel
theorem dX10_year_49 : decode cX10_year 49 = .ok (.if_icmp .ge 64, 3) := by decide +kernel
theorem dX10_year_52 : decode cX10_year 52 = .ok (.iconst 2, 1) := by decide +kernel
theorem dX10_year_53 : decode cX10_year 53 = .ok (.iload 5, 2) := by decide +kernel
theorem dX10_year_55 : decode cX10_year 55 = .ok (.imul, 1) := by decide +kernel
theorem dX10_year_56 : decode cX10_year 56 = .ok (.iconst 1, 1) := by decide +kernel
theorem dX10_year_57 : decode cX10_year 57 = .ok (.iadd, 1) := by decide +kernel
theorem dX10_year_58 : decode cX10_year 58 = .ok (.aload_n 0, 1) := by decide +kernel
theorem dX10_year_59 : decode cX10_year 59 = .ok (.getfield 126, 3) := by decide +kernel
theorem dX10_year_62 : decode cX10_year 62 = .ok (.iload_n 1, 1) := by decide +kernel
theorem dX10_year_63 : decode cX10_year 63 = .ok (.iaload, 1) := by decide +kernel
theorem dX10_year_64 : decode cX10_year 64 = .ok (.if_icmp .ge 49, 3) := by decide +kernel
theorem dX10_year_67 : decode cX10_year 67 = .ok (.aload_n 0, 1) := by decide +kernel
theorem dX10_year_68 : decode cX10_year 68 = .ok (.iload_n 1, 1) := by decide +kernel
theorem dX10_year_69 : decode cX10_year 69 = .ok (.iconst 2, 1) := by decide +kernel
theorem dX10_year_70 : decode cX10_year 70 = .ok (.iload 5, 2) := by decide +kernel
theorem dX10_year_72 : decode cX10_year 72 = .ok (.imul, 1) := by decide +kernel
theorem dX10_year_73 : decode cX10_year 73 = .ok (.invokevirtual 269, 3) := by decide +kernel
theorem dX10_year_76 : decode cX10_year 76 = .ok (.iconst 0, 1) := by decide +kernel
theorem dX10_year_77 : decode cX10_year 77 = .ok (.sipush 999, 3) := by decide +kernel
theorem dX10_year_80 : decode cX10_year 80 = .ok (.invokestatic 142, 3) := by decide +kernel
theorem dX10_year_83 : decode cX10_year 83 = .ok (.ifCond .eq 30, 3) := by decide +kernel
theorem dX10_year_86 : decode cX10_year 86 = .ok (.aload_n 0, 1) := by decide +kernel
theorem dX10_year_87 : decode cX10_year 87 = .ok (.iload_n 1, 1) := by decide +kernel
theorem dX10_year_88 : decode cX10_year 88 = .ok (.iconst 2, 1) := by decide +kernel
theorem dX10_year_89 : decode cX10_year 89 = .ok (.iload 5, 2) := by decide +kernel
theorem dX10_year_91 : decode cX10_year 91 = .ok (.imul, 1) := by decide +kernel
theorem dX10_year_92 : decode cX10_year 92 = .ok (.iconst 1, 1) := by decide +kernel
theorem dX10_year_93 : decode cX10_year 93 = .ok (.iadd, 1) := by decide +kernel
theorem dX10_year_94 : decode cX10_year 94 = .ok (.invokevirtual 269, 3) := by decide +kernel
theorem dX10_year_97 : decode cX10_year 97 = .ok (.iconst 0, 1) := by decide +kernel
theorem dX10_year_98 : decode cX10_year 98 = .ok (.sipush 999, 3) := by decide +kernel
theorem dX10_year_101 : decode cX10_year 101 = .ok (.invokestatic 142, 3) := by decide +kernel
theorem dX10_year_104 : decode cX10_year 104 = .ok (.ifCond .eq 9, 3) := by decide +kernel
theorem dX10_year_107 : decode cX10_year 107 = .ok (.iinc 5 1, 3) := by decide +kernel
theorem dX10_year_110 : decode cX10_year 110 = .ok (.goto (-65), 3) := by decide +kernel
theorem dX10_year_113 : decode cX10_year 113 = .ok (.iconst 0, 1) := by decide +kernel
theorem dX10_year_114 : decode cX10_year 114 = .ok (.istore 6, 2) := by decide +kernel
theorem dX10_year_116 : decode cX10_year 116 = .ok (.iconst 0, 1) := by decide +kernel
theorem dX10_year_117 : decode cX10_year 117 = .ok (.istore 7, 2) := by decide +kernel
theorem dX10_year_119 : decode cX10_year 119 = .ok (.iconst 1, 1) := by decide +kernel
theorem dX10_year_120 : decode cX10_year 120 = .ok (.istore 8, 2) := by decide +kernel
theorem dX10_year_122 : decode cX10_year 122 = .ok (.iload 8, 2) := by decide +kernel
theorem dX10_year_124 : decode cX10_year 124 = .ok (.iconst 1, 1) := by decide +kernel
theorem dX10_year_125 : decode cX10_year 125 = .ok (.iload 5, 2) := by decide +kernel
theorem dX10_year_127 : decode cX10_year 127 = .ok (.ishl, 1) := by decide +kernel
theorem dX10_year_128 : decode cX10_year 128 = .ok (.if_icmp .ge 103, 3) := by decide +kernel
theorem dX10_year_131 : decode cX10_year 131 = .ok (.iconst 0, 1) := by decide +kernel
theorem dX10_year_132 : decode cX10_year 132 = .ok (.istore 9, 2) := by decide +kernel
theorem dX10_year_134 : decode cX10_year 134 = .ok (.iconst 0, 1) := by decide +kernel
theorem dX10_year_135 : decode cX10_year 135 = .ok (.istore 10, 2) := by decide +kernel
theorem dX10_year_137 : decode cX10_year 137 = .ok (.iconst 0, 1) := by decide +kernel
theorem dX10_year_138 : decode cX10_year 138 = .ok (.istore 11, 2) := by decide +kernel
theorem dX10_year_140 : decode cX10_year 140 = .ok (.iload 11, 2) := by decide +kernel
theorem dX10_year_142 : decode cX10_year 142 = .ok (.iload 5, 2) := by decide +kernel
theorem dX10_year_144 : decode cX10_year 144 = .ok (.if_icmp .ge 52, 3) := by decide +kernel
theorem dX10_year_147 : decode cX10_year 147 = .ok (.iload 8, 2) := by decide +kernel
theorem dX10_year_149 : decode cX10_year 149 = .ok (.iload 11, 2) := by decide +kernel
theorem dX10_year_151 : decode cX10_year 151 = .ok (.ishr, 1) := by decide +kernel
theorem dX10_year_152 : decode cX10_year 152 = .ok (.iconst 1, 1) := by decide +kernel
theorem dX10_year_153 : decode cX10_year 153 = .ok (.iand, 1) := by decide +kernel
theorem dX10_year_154 : decode cX10_year 154 = .ok (.ifCond .ne 6, 3) := by decide +kernel
theorem dX10_year_157 : decode cX10_year 157 = .ok (.goto 33, 3) := by decide +kernel
theorem dX10_year_160 : decode cX10_year 160 = .ok (.iload 9, 2) := by decide +kernel
theorem dX10_year_162 : decode cX10_year 162 = .ok (.aload_n 0, 1) := by decide +kernel
theorem dX10_year_163 : decode cX10_year 163 = .ok (.iload_n 1, 1) := by decide +kernel
theorem dX10_year_164 : decode cX10_year 164 = .ok (.iconst 2, 1) := by decide +kernel
theorem dX10_year_165 : decode cX10_year 165 = .ok (.iload 11, 2) := by decide +kernel
theorem dX10_year_167 : decode cX10_year 167 = .ok (.imul, 1) := by decide +kernel
theorem dX10_year_168 : decode cX10_year 168 = .ok (.invokevirtual 269, 3) := by decide +kernel
theorem dX10_year_171 : decode cX10_year 171 = .ok (.iadd, 1) := by decide +kernel
theorem dX10_year_172 : decode cX10_year 172 = .ok (.istore 9, 2) := by decide +kernel
theorem dX10_year_174 : decode cX10_year 174 = .ok (.iload 10, 2) := by decide +kernel
theorem dX10_year_176 : decode cX10_year 176 = .ok (.aload_n 0, 1) := by decide +kernel
theorem dX10_year_177 : decode cX10_year 177 = .ok (.iload_n 1, 1) := by decide +kernel
theorem dX10_year_178 : decode cX10_year 178 = .ok (.iconst 2, 1) := by decide +kernel
theorem dX10_year_179 : decode cX10_year 179 = .ok (.iload 11, 2) := by decide +kernel
theorem dX10_year_181 : decode cX10_year 181 = .ok (.imul, 1) := by decide +kernel
theorem dX10_year_182 : decode cX10_year 182 = .ok (.iconst 1, 1) := by decide +kernel
theorem dX10_year_183 : decode cX10_year 183 = .ok (.iadd, 1) := by decide +kernel
theorem dX10_year_184 : decode cX10_year 184 = .ok (.invokevirtual 269, 3) := by decide +kernel
theorem dX10_year_187 : decode cX10_year 187 = .ok (.iadd, 1) := by decide +kernel
theorem dX10_year_188 : decode cX10_year 188 = .ok (.istore 10, 2) := by decide +kernel
theorem dX10_year_190 : decode cX10_year 190 = .ok (.iinc 11 1, 3) := by decide +kernel
theorem dX10_year_193 : decode cX10_year 193 = .ok (.goto (-53), 3) := by decide +kernel
theorem dX10_year_196 : decode cX10_year 196 = .ok (.iload 9, 2) := by decide +kernel
theorem dX10_year_198 : decode cX10_year 198 = .ok (.aload_n 0, 1) := by decide +kernel
theorem dX10_year_199 : decode cX10_year 199 = .ok (.getfield 27, 3) := by decide +kernel
theorem dX10_year_202 : decode cX10_year 202 = .ok (.iload_n 2, 1) := by decide +kernel
theorem dX10_year_203 : decode cX10_year 203 = .ok (.iaload, 1) := by decide +kernel
theorem dX10_year_204 : decode cX10_year 204 = .ok (.if_icmp .gt 21, 3) := by decide +kernel
theorem dX10_year_207 : decode cX10_year 207 = .ok (.iload 10, 2) := by decide +kernel
theorem dX10_year_209 : decode cX10_year 209 = .ok (.iload 7, 2) := by decide +kernel
theorem dX10_year_211 : decode cX10_year 211 = .ok (.if_icmp .gt 6, 3) := by decide +kernel
theorem dX10_year_214 : decode cX10_year 214 = .ok (.goto 11, 3) := by decide +kernel
theorem dX10_year_217 : decode cX10_year 217 = .ok (.iload 8, 2) := by decide +kernel
theorem dX10_year_219 : decode cX10_year 219 = .ok (.istore 6, 2) := by decide +kernel
theorem dX10_year_221 : decode cX10_year 221 = .ok (.iload 10, 2) := by decide +kernel
theorem dX10_year_223 : decode cX10_year 223 = .ok (.istore 7, 2) := by decide +kernel
theorem dX10_year_225 : decode cX10_year 225 = .ok (.iinc 8 1, 3) := by decide +kernel
theorem dX10_year_228 : decode cX10_year 228 = .ok (.goto (-106), 3) := by decide +kernel
theorem dX10_year_231 : decode cX10_year 231 = .ok (.iload_n 3, 1) := by decide +kernel
theorem dX10_year_232 : decode cX10_year 232 = .ok (.ifCond .ne 8, 3) := by decide +kernel
theorem dX10_year_235 : decode cX10_year 235 = .ok (.iload 7, 2) := by decide +kernel
theorem dX10_year_237 : decode cX10_year 237 = .ok (.goto 5, 3) := by decide +kernel
theorem dX10_year_240 : decode cX10_year 240 = .ok (.iload 6, 2) := by decide +kernel
theorem dX10_year_242 : decode cX10_year 242 = .ok (.ireturn, 1) := by decide +kernel
theorem dX10_errAt_0 : decode cX10_errAt 0 = .ok (.iload_n 0, 1) := by decide +kernel
theorem dX10_errAt_1 : decode cX10_errAt 1 = .ok (.iconst 4, 1) := by decide +kernel
theorem dX10_errAt_2 : decode cX10_errAt 2 = .ok (.imul, 1) := by decide +kernel
theorem dX10_errAt_3 : decode cX10_errAt 3 = .ok (.iload_n 1, 1) := by decide +kernel
theorem dX10_errAt_4 : decode cX10_errAt 4 = .ok (.iadd, 1) := by decide +kernel
theorem dX10_errAt_5 : decode cX10_errAt 5 = .ok (.iconst 2, 1) := by decide +kernel
theorem dX10_errAt_6 : decode cX10_errAt 6 = .ok (.imul, 1) := by decide +kernel
theorem dX10_errAt_7 : decode cX10_errAt 7 = .ok (.iload_n 2, 1) := by decide +kernel
theorem dX10_errAt_8 : decode cX10_errAt 8 = .ok (.iadd, 1) := by decide +kernel
theorem dX10_errAt_9 : decode cX10_errAt 9 = .ok (.iconst 2, 1) := by decide +kernel
theorem dX10_errAt_10 : decode cX10_errAt 10 = .ok (.imul, 1) := by decide +kernel
theorem dX10_errAt_11 : decode cX10_errAt 11 = .ok (.iload_n 3, 1) := by decide +kernel
theorem dX10_errAt_12 : decode cX10_errAt 12 = .ok (.iadd, 1) := by decide +kernel
theorem dX10_errAt_13 : decode cX10_errAt 13 = .ok (.ireturn, 1) := by decide +kernel
theorem dX10_weightOf_0 : decode cX10_weightOf 0 = .ok (.aload_n 0, 1) := by decide +kernel
theorem dX10_weightOf_1 : decode cX10_weightOf 1 = .ok (.getfield 24, 3) := by decide +kernel
theorem dX10_weightOf_4 : decode cX10_weightOf 4 = .ok (.iload_n 1, 1) := by decide +kernel
theorem dX10_weightOf_5 : decode cX10_weightOf 5 = .ok (.iaload, 1) := by decide +kernel
theorem dX10_weightOf_6 : decode cX10_weightOf 6 = .ok (.iload_n 2, 1) := by decide +kernel
theorem dX10_weightOf_7 : decode cX10_weightOf 7 = .ok (.if_icmp .ne 12, 3) := by decide +kernel
theorem dX10_weightOf_10 : decode cX10_weightOf 10 = .ok (.aload_n 0, 1) := by decide +kernel
theorem dX10_weightOf_11 : decode cX10_weightOf 11 = .ok (.getfield 33, 3) := by decide +kernel
theorem dX10_weightOf_14 : decode cX10_weightOf 14 = .ok (.iconst 1, 1) := by decide +kernel
theorem dX10_weightOf_15 : decode cX10_weightOf 15 = .ok (.iaload, 1) := by decide +kernel
theorem dX10_weightOf_16 : decode cX10_weightOf 16 = .ok (.goto 4, 3) := by decide +kernel
theorem dX10_weightOf_19 : decode cX10_weightOf 19 = .ok (.iconst 0, 1) := by decide +kernel
theorem dX10_weightOf_20 : decode cX10_weightOf 20 = .ok (.istore_n 3, 1) := by decide +kernel
theorem dX10_weightOf_21 : decode cX10_weightOf 21 = .ok (.iload_n 1, 1) := by decide +kernel
theorem dX10_weightOf_22 : decode cX10_weightOf 22 = .ok (.iload_n 2, 1) := by decide +kernel
theorem dX10_weightOf_23 : decode cX10_weightOf 23 = .ok (.if_icmp .ne 17, 3) := by decide +kernel
theorem dX10_weightOf_26 : decode cX10_weightOf 26 = .ok (.iload_n 3, 1) := by decide +kernel
theorem dX10_weightOf_27 : decode cX10_weightOf 27 = .ok (.bipush 12, 2) := by decide +kernel
theorem dX10_weightOf_29 : decode cX10_weightOf 29 = .ok (.iadd, 1) := by decide +kernel
theorem dX10_weightOf_30 : decode cX10_weightOf 30 = .ok (.aload_n 0, 1) := by decide +kernel
theorem dX10_weightOf_31 : decode cX10_weightOf 31 = .ok (.getfield 33, 3) := by decide +kernel
theorem dX10_weightOf_34 : decode cX10_weightOf 34 = .ok (.iconst 1, 1) := by decide +kernel
theorem dX10_weightOf_35 : decode cX10_weightOf 35 = .ok (.iaload, 1) := by decide +kernel
theorem dX10_weightOf_36 : decode cX10_weightOf 36 = .ok (.isub, 1) := by decide +kernel
theorem dX10_weightOf_37 : decode cX10_weightOf 37 = .ok (.goto 4, 3) := by decide +kernel
theorem dX10_weightOf_40 : decode cX10_weightOf 40 = .ok (.iload_n 3, 1) := by decide +kernel
theorem dX10_weightOf_41 : decode cX10_weightOf 41 = .ok (.ireturn, 1) := by decide +kernel
theorem dX10_seenBy_0 : decode cX10_seenBy 0 = .ok (.aload_n 0, 1) := by decide +kernel
theorem dX10_seenBy_1 : decode cX10_seenBy 1 = .ok (.getfield 337, 3) := by decide +kernel
theorem dX10_seenBy_4 : decode cX10_seenBy 4 = .ok (.ifCond .lt 24, 3) := by decide +kernel
theorem dX10_seenBy_7 : decode cX10_seenBy 7 = .ok (.aload_n 0, 1) := by decide +kernel
theorem dX10_seenBy_8 : decode cX10_seenBy 8 = .ok (.getfield 15, 3) := by decide +kernel
theorem dX10_seenBy_11 : decode cX10_seenBy 11 = .ok (.iload_n 1, 1) := by decide +kernel
theorem dX10_seenBy_12 : decode cX10_seenBy 12 = .ok (.iaload, 1) := by decide +kernel
theorem dX10_seenBy_13 : decode cX10_seenBy 13 = .ok (.aload_n 0, 1) := by decide +kernel
theorem dX10_seenBy_14 : decode cX10_seenBy 14 = .ok (.getfield 337, 3) := by decide +kernel
theorem dX10_seenBy_17 : decode cX10_seenBy 17 = .ok (.ishr, 1) := by decide +kernel
theorem dX10_seenBy_18 : decode cX10_seenBy 18 = .ok (.iconst 1, 1) := by decide +kernel
theorem dX10_seenBy_19 : decode cX10_seenBy 19 = .ok (.iand, 1) := by decide +kernel
theorem dX10_seenBy_20 : decode cX10_seenBy 20 = .ok (.iconst 1, 1) := by decide +kernel
theorem dX10_seenBy_21 : decode cX10_seenBy 21 = .ok (.if_icmp .ne 7, 3) := by decide +kernel
theorem dX10_seenBy_24 : decode cX10_seenBy 24 = .ok (.iconst 1, 1) := by decide +kernel
theorem dX10_seenBy_25 : decode cX10_seenBy 25 = .ok (.goto 4, 3) := by decide +kernel
theorem dX10_seenBy_28 : decode cX10_seenBy 28 = .ok (.iload_n 2, 1) := by decide +kernel
theorem dX10_seenBy_29 : decode cX10_seenBy 29 = .ok (.ireturn, 1) := by decide +kernel
theorem dX10_nextAt_0 : decode cX10_nextAt 0 = .ok (.iload_n 1, 1) := by decide +kernel
theorem dX10_nextAt_1 : decode cX10_nextAt 1 = .ok (.iconst 1, 1) := by decide +kernel
theorem dX10_nextAt_2 : decode cX10_nextAt 2 = .ok (.iadd, 1) := by decide +kernel
theorem dX10_nextAt_3 : decode cX10_nextAt 3 = .ok (.aload_n 0, 1) := by decide +kernel
theorem dX10_nextAt_4 : decode cX10_nextAt 4 = .ok (.getfield 18, 3) := by decide +kernel
theorem dX10_nextAt_7 : decode cX10_nextAt 7 = .ok (.iload_n 2, 1) := by decide +kernel
theorem dX10_nextAt_8 : decode cX10_nextAt 8 = .ok (.iaload, 1) := by decide +kernel
theorem dX10_nextAt_9 : decode cX10_nextAt 9 = .ok (.aload_n 0, 1) := by decide +kernel
theorem dX10_nextAt_10 : decode cX10_nextAt 10 = .ok (.getfield 18, 3) := by decide +kernel
theorem dX10_nextAt_13 : decode cX10_nextAt 13 = .ok (.iload_n 2, 1) := by decide +kernel
theorem dX10_nextAt_14 : decode cX10_nextAt 14 = .ok (.iaload, 1) := by decide +kernel
theorem dX10_nextAt_15 : decode cX10_nextAt 15 = .ok (.iconst 1, 1) := by decide +kernel
theorem dX10_nextAt_16 : decode cX10_nextAt 16 = .ok (.if_icmp .ne 7, 3) := by decide +kernel
theorem dX10_nextAt_19 : decode cX10_nextAt 19 = .ok (.iconst 1, 1) := by decide +kernel
theorem dX10_nextAt_20 : decode cX10_nextAt 20 = .ok (.goto 4, 3) := by decide +kernel
theorem dX10_nextAt_23 : decode cX10_nextAt 23 = .ok (.iload_n 3, 1) := by decide +kernel
theorem dX10_nextAt_24 : decode cX10_nextAt 24 = .ok (.aload_n 0, 1) := by decide +kernel
theorem dX10_nextAt_25 : decode cX10_nextAt 25 = .ok (.iload_n 2, 1) := by decide +kernel
theorem dX10_nextAt_26 : decode cX10_nextAt 26 = .ok (.iload 4, 2) := by decide +kernel
theorem dX10_nextAt_28 : decode cX10_nextAt 28 = .ok (.invokevirtual 340, 3) := by decide +kernel
theorem dX10_nextAt_31 : decode cX10_nextAt 31 = .ok (.invokestatic 343, 3) := by decide +kernel
theorem dX10_nextAt_34 : decode cX10_nextAt 34 = .ok (.ireturn, 1) := by decide +kernel
theorem dX10_findErrors_0 : decode cX10_findErrors 0 = .ok (.aload_n 0, 1) := by decide +kernel
theorem dX10_findErrors_1 : decode cX10_findErrors 1 = .ok (.iload_n 1, 1) := by decide +kernel
theorem dX10_findErrors_2 : decode cX10_findErrors 2 = .ok (.putfield 337, 3) := by decide +kernel
theorem dX10_findErrors_5 : decode cX10_findErrors 5 = .ok (.iconst 0, 1) := by decide +kernel
theorem dX10_findErrors_6 : decode cX10_findErrors 6 = .ok (.istore_n 2, 1) := by decide +kernel
theorem dX10_findErrors_7 : decode cX10_findErrors 7 = .ok (.iload_n 2, 1) := by decide +kernel
theorem dX10_findErrors_8 : decode cX10_findErrors 8 = .ok (.iconst 4, 1) := by decide +kernel
theorem dX10_findErrors_9 : decode cX10_findErrors 9 = .ok (.if_icmp .ge 108, 3) := by decide +kernel
theorem dX10_findErrors_12 : decode cX10_findErrors 12 = .ok (.iconst 0, 1) := by decide +kernel
theorem dX10_findErrors_13 : decode cX10_findErrors 13 = .ok (.istore_n 3, 1) := by decide +kernel
theorem dX10_findErrors_14 : decode cX10_findErrors 14 = .ok (.iload_n 3, 1) := by decide +kernel
theorem dX10_findErrors_15 : decode cX10_findErrors 15 = .ok (.iconst 4, 1) := by decide +kernel
theorem dX10_findErrors_16 : decode cX10_findErrors 16 = .ok (.if_icmp .ge 95, 3) := by decide +kernel
theorem dX10_findErrors_19 : decode cX10_findErrors 19 = .ok (.aload_n 0, 1) := by decide +kernel
theorem dX10_findErrors_20 : decode cX10_findErrors 20 = .ok (.getfield 266, 3) := by decide +kernel
theorem dX10_findErrors_23 : decode cX10_findErrors 23 = .ok (.iload_n 2, 1) := by decide +kernel
theorem dX10_findErrors_24 : decode cX10_findErrors 24 = .ok (.iload_n 3, 1) := by decide +kernel
theorem dX10_findErrors_25 : decode cX10_findErrors 25 = .ok (.iconst 2, 1) := by decide +kernel
theorem dX10_findErrors_26 : decode cX10_findErrors 26 = .ok (.idiv, 1) := by decide +kernel
theorem dX10_findErrors_27 : decode cX10_findErrors 27 = .ok (.iload_n 3, 1) := by decide +kernel
theorem dX10_findErrors_28 : decode cX10_findErrors 28 = .ok (.iconst 2, 1) := by decide +kernel
theorem dX10_findErrors_29 : decode cX10_findErrors 29 = .ok (.irem, 1) := by decide +kernel
theorem dX10_findErrors_30 : decode cX10_findErrors 30 = .ok (.invokestatic 343, 3) := by decide +kernel
theorem dX10_findErrors_33 : decode cX10_findErrors 33 = .ok (.istore 4, 2) := by decide +kernel
theorem dX10_findErrors_35 : decode cX10_findErrors 35 = .ok (.iload_n 3, 1) := by decide +kernel
theorem dX10_findErrors_36 : decode cX10_findErrors 36 = .ok (.iconst 2, 1) := by decide +kernel
theorem dX10_findErrors_37 : decode cX10_findErrors 37 = .ok (.idiv, 1) := by decide +kernel
theorem dX10_findErrors_38 : decode cX10_findErrors 38 = .ok (.iconst 1, 1) := by decide +kernel
theorem dX10_findErrors_39 : decode cX10_findErrors 39 = .ok (.if_icmp .ne 18, 3) := by decide +kernel
theorem dX10_findErrors_42 : decode cX10_findErrors 42 = .ok (.iload_n 1, 1) := by decide +kernel
theorem dX10_findErrors_43 : decode cX10_findErrors 43 = .ok (.ifCond .lt 10, 3) := by decide +kernel
theorem dX10_findErrors_46 : decode cX10_findErrors 46 = .ok (.iload_n 3, 1) := by decide +kernel
theorem dX10_findErrors_47 : decode cX10_findErrors 47 = .ok (.iconst 2, 1) := by decide +kernel
theorem dX10_findErrors_48 : decode cX10_findErrors 48 = .ok (.irem, 1) := by decide +kernel
theorem dX10_findErrors_49 : decode cX10_findErrors 49 = .ok (.iconst 1, 1) := by decide +kernel
theorem dX10_findErrors_50 : decode cX10_findErrors 50 = .ok (.if_icmp .ne 7, 3) := by decide +kernel
theorem dX10_findErrors_53 : decode cX10_findErrors 53 = .ok (.iconst 1, 1) := by decide +kernel
theorem dX10_findErrors_54 : decode cX10_findErrors 54 = .ok (.goto 4, 3) := by decide +kernel
theorem dX10_findErrors_57 : decode cX10_findErrors 57 = .ok (.iconst 0, 1) := by decide +kernel
theorem dX10_findErrors_58 : decode cX10_findErrors 58 = .ok (.istore 5, 2) := by decide +kernel
theorem dX10_findErrors_60 : decode cX10_findErrors 60 = .ok (.aload_n 0, 1) := by decide +kernel
theorem dX10_findErrors_61 : decode cX10_findErrors 61 = .ok (.getfield 95, 3) := by decide +kernel
theorem dX10_findErrors_64 : decode cX10_findErrors 64 = .ok (.iload 4, 2) := by decide +kernel
theorem dX10_findErrors_66 : decode cX10_findErrors 66 = .ok (.iload 5, 2) := by decide +kernel
theorem dX10_findErrors_68 : decode cX10_findErrors 68 = .ok (.ifCond .eq 7, 3) := by decide +kernel
theorem dX10_findErrors_71 : decode cX10_findErrors 71 = .ok (.lconst 1, 1) := by decide +kernel
theorem dX10_findErrors_72 : decode cX10_findErrors 72 = .ok (.goto 4, 3) := by decide +kernel
theorem dX10_findErrors_75 : decode cX10_findErrors 75 = .ok (.lconst 0, 1) := by decide +kernel
theorem dX10_findErrors_76 : decode cX10_findErrors 76 = .ok (.lastore, 1) := by decide +kernel
theorem dX10_findErrors_77 : decode cX10_findErrors 77 = .ok (.aload_n 0, 1) := by decide +kernel
theorem dX10_findErrors_78 : decode cX10_findErrors 78 = .ok (.getfield 99, 3) := by decide +kernel
theorem dX10_findErrors_81 : decode cX10_findErrors 81 = .ok (.iload 4, 2) := by decide +kernel
theorem dX10_findErrors_83 : decode cX10_findErrors 83 = .ok (.aload_n 0, 1) := by decide +kernel
theorem dX10_findErrors_84 : decode cX10_findErrors 84 = .ok (.getfield 95, 3) := by decide +kernel
theorem dX10_findErrors_87 : decode cX10_findErrors 87 = .ok (.iload 4, 2) := by decide +kernel
theorem dX10_findErrors_89 : decode cX10_findErrors 89 = .ok (.laload, 1) := by decide +kernel
theorem dX10_findErrors_90 : decode cX10_findErrors 90 = .ok (.lastore, 1) := by decide +kernel
theorem dX10_findErrors_91 : decode cX10_findErrors 91 = .ok (.aload_n 0, 1) := by decide +kernel
theorem dX10_findErrors_92 : decode cX10_findErrors 92 = .ok (.getfield 102, 3) := by decide +kernel
theorem dX10_findErrors_95 : decode cX10_findErrors 95 = .ok (.iload 4, 2) := by decide +kernel
theorem dX10_findErrors_97 : decode cX10_findErrors 97 = .ok (.aload_n 0, 1) := by decide +kernel
theorem dX10_findErrors_98 : decode cX10_findErrors 98 = .ok (.getfield 95, 3) := by decide +kernel
theorem dX10_findErrors_101 : decode cX10_findErrors 101 = .ok (.iload 4, 2) := by decide +kernel
theorem dX10_findErrors_103 : decode cX10_findErrors 103 = .ok (.laload, 1) := by decide +kernel
theorem dX10_findErrors_104 : decode cX10_findErrors 104 = .ok (.lastore, 1) := by decide +kernel
theorem dX10_findErrors_105 : decode cX10_findErrors 105 = .ok (.iinc 3 1, 3) := by decide +kernel
theorem dX10_findErrors_108 : decode cX10_findErrors 108 = .ok (.goto (-94), 3) := by decide +kernel
theorem dX10_findErrors_111 : decode cX10_findErrors 111 = .ok (.iinc 2 1, 3) := by decide +kernel
theorem dX10_findErrors_114 : decode cX10_findErrors 114 = .ok (.goto (-107), 3) := by decide +kernel
theorem dX10_findErrors_117 : decode cX10_findErrors 117 = .ok (.aload_n 0, 1) := by decide +kernel
theorem dX10_findErrors_118 : decode cX10_findErrors 118 = .ok (.getfield 266, 3) := by decide +kernel
theorem dX10_findErrors_121 : decode cX10_findErrors 121 = .ok (.iconst 1, 1) := by decide +kernel
theorem dX10_findErrors_122 : decode cX10_findErrors 122 = .ok (.isub, 1) := by decide +kernel
theorem dX10_findErrors_123 : decode cX10_findErrors 123 = .ok (.istore_n 2, 1) := by decide +kernel
theorem dX10_findErrors_124 : decode cX10_findErrors 124 = .ok (.iload_n 2, 1) := by decide +kernel
theorem dX10_findErrors_125 : decode cX10_findErrors 125 = .ok (.ifCond .lt 51, 3) := by decide +kernel
theorem dX10_findErrors_128 : decode cX10_findErrors 128 = .ok (.iconst 0, 1) := by decide +kernel
theorem dX10_findErrors_129 : decode cX10_findErrors 129 = .ok (.istore_n 3, 1) := by decide +kernel
theorem dX10_findErrors_130 : decode cX10_findErrors 130 = .ok (.iload_n 3, 1) := by decide +kernel
theorem dX10_findErrors_131 : decode cX10_findErrors 131 = .ok (.iconst 4, 1) := by decide +kernel
theorem dX10_findErrors_132 : decode cX10_findErrors 132 = .ok (.if_icmp .ge 38, 3) := by decide +kernel
theorem dX10_findErrors_135 : decode cX10_findErrors 135 = .ok (.iconst 0, 1) := by decide +kernel
theorem dX10_findErrors_136 : decode cX10_findErrors 136 = .ok (.istore 4, 2) := by decide +kernel
theorem dX10_findErrors_138 : decode cX10_findErrors 138 = .ok (.iload 4, 2) := by decide +kernel
theorem dX10_findErrors_140 : decode cX10_findErrors 140 = .ok (.iconst 4, 1) := by decide +kernel
theorem dX10_findErrors_141 : decode cX10_findErrors 141 = .ok (.if_icmp .ge 23, 3) := by decide +kernel
theorem dX10_findErrors_144 : decode cX10_findErrors 144 = .ok (.aload_n 0, 1) := by decide +kernel
theorem dX10_findErrors_145 : decode cX10_findErrors 145 = .ok (.iload_n 2, 1) := by decide +kernel
theorem dX10_findErrors_146 : decode cX10_findErrors 146 = .ok (.iload_n 3, 1) := by decide +kernel
theorem dX10_findErrors_147 : decode cX10_findErrors 147 = .ok (.iload 4, 2) := by decide +kernel
theorem dX10_findErrors_149 : decode cX10_findErrors 149 = .ok (.iconst 2, 1) := by decide +kernel
theorem dX10_findErrors_150 : decode cX10_findErrors 150 = .ok (.idiv, 1) := by decide +kernel
theorem dX10_findErrors_151 : decode cX10_findErrors 151 = .ok (.iload 4, 2) := by decide +kernel
theorem dX10_findErrors_153 : decode cX10_findErrors 153 = .ok (.iconst 2, 1) := by decide +kernel
theorem dX10_findErrors_154 : decode cX10_findErrors 154 = .ok (.irem, 1) := by decide +kernel
theorem dX10_findErrors_155 : decode cX10_findErrors 155 = .ok (.invokevirtual 346, 3) := by decide +kernel
theorem dX10_findErrors_158 : decode cX10_findErrors 158 = .ok (.iinc 4 1, 3) := by decide +kernel
theorem dX10_findErrors_161 : decode cX10_findErrors 161 = .ok (.goto (-23), 3) := by decide +kernel
theorem dX10_findErrors_164 : decode cX10_findErrors 164 = .ok (.iinc 3 1, 3) := by decide +kernel
theorem dX10_findErrors_167 : decode cX10_findErrors 167 = .ok (.goto (-37), 3) := by decide +kernel
theorem dX10_findErrors_170 : decode cX10_findErrors 170 = .ok (.iinc 2 (-1), 3) := by decide +kernel
theorem dX10_findErrors_173 : decode cX10_findErrors 173 = .ok (.goto (-49), 3) := by decide +kernel
theorem dX10_findErrors_176 : decode cX10_findErrors 176 = .ok (.return_, 1) := by decide +kernel
theorem dX10_findPlace_0 : decode cX10_findPlace 0 = .ok (.lconst 0, 1) := by decide +kernel
theorem dX10_findPlace_1 : decode cX10_findPlace 1 = .ok (.lstore 5, 2) := by decide +kernel
theorem dX10_findPlace_3 : decode cX10_findPlace 3 = .ok (.lconst 0, 1) := by decide +kernel
theorem dX10_findPlace_4 : decode cX10_findPlace 4 = .ok (.lstore 7, 2) := by decide +kernel
theorem dX10_findPlace_6 : decode cX10_findPlace 6 = .ok (.lconst 0, 1) := by decide +kernel
theorem dX10_findPlace_7 : decode cX10_findPlace 7 = .ok (.lstore 9, 2) := by decide +kernel
theorem dX10_findPlace_9 : decode cX10_findPlace 9 = .ok (.iconst 0, 1) := by decide +kernel
theorem dX10_findPlace_10 : decode cX10_findPlace 10 = .ok (.istore 11, 2) := by decide +kernel
theorem dX10_findPlace_12 : decode cX10_findPlace 12 = .ok (.iload 11, 2) := by decide +kernel
theorem dX10_findPlace_14 : decode cX10_findPlace 14 = .ok (.aload_n 0, 1) := by decide +kernel
theorem dX10_findPlace_15 : decode cX10_findPlace 15 = .ok (.getfield 139, 3) := by decide +kernel
theorem dX10_findPlace_18 : decode cX10_findPlace 18 = .ok (.if_icmp .ge 115, 3) := by decide +kernel
theorem dX10_findPlace_21 : decode cX10_findPlace 21 = .ok (.aload_n 0, 1) := by decide +kernel
theorem dX10_findPlace_22 : decode cX10_findPlace 22 = .ok (.iload 11, 2) := by decide +kernel
theorem dX10_findPlace_24 : decode cX10_findPlace 24 = .ok (.aload_n 0, 1) := by decide +kernel
theorem dX10_findPlace_25 : decode cX10_findPlace 25 = .ok (.getfield 74, 3) := by decide +kernel
theorem dX10_findPlace_28 : decode cX10_findPlace 28 = .ok (.iload_n 1, 1) := by decide +kernel
theorem dX10_findPlace_29 : decode cX10_findPlace 29 = .ok (.iaload, 1) := by decide +kernel
theorem dX10_findPlace_30 : decode cX10_findPlace 30 = .ok (.invokevirtual 349, 3) := by decide +kernel
theorem dX10_findPlace_33 : decode cX10_findPlace 33 = .ok (.istore 12, 2) := by decide +kernel
theorem dX10_findPlace_35 : decode cX10_findPlace 35 = .ok (.iload 12, 2) := by decide +kernel
theorem dX10_findPlace_37 : decode cX10_findPlace 37 = .ok (.ifCond .eq 90, 3) := by decide +kernel
theorem dX10_findPlace_40 : decode cX10_findPlace 40 = .ok (.aload_n 0, 1) := by decide +kernel
theorem dX10_findPlace_41 : decode cX10_findPlace 41 = .ok (.getfield 18, 3) := by decide +kernel
theorem dX10_findPlace_44 : decode cX10_findPlace 44 = .ok (.iload 11, 2) := by decide +kernel
theorem dX10_findPlace_46 : decode cX10_findPlace 46 = .ok (.iaload, 1) := by decide +kernel
theorem dX10_findPlace_47 : decode cX10_findPlace 47 = .ok (.iload_n 2, 1) := by decide +kernel
theorem dX10_findPlace_48 : decode cX10_findPlace 48 = .ok (.invokestatic 278, 3) := by decide +kernel
theorem dX10_findPlace_51 : decode cX10_findPlace 51 = .ok (.ifCond .ne 6, 3) := by decide +kernel
theorem dX10_findPlace_54 : decode cX10_findPlace 54 = .ok (.goto 73, 3) := by decide +kernel
theorem dX10_findPlace_57 : decode cX10_findPlace 57 = .ok (.aload_n 0, 1) := by decide +kernel
theorem dX10_findPlace_58 : decode cX10_findPlace 58 = .ok (.iload_n 1, 1) := by decide +kernel
theorem dX10_findPlace_59 : decode cX10_findPlace 59 = .ok (.iload 11, 2) := by decide +kernel
theorem dX10_findPlace_61 : decode cX10_findPlace 61 = .ok (.iload_n 3, 1) := by decide +kernel
theorem dX10_findPlace_62 : decode cX10_findPlace 62 = .ok (.iload 4, 2) := by decide +kernel
theorem dX10_findPlace_64 : decode cX10_findPlace 64 = .ok (.invokevirtual 352, 3) := by decide +kernel
theorem dX10_findPlace_67 : decode cX10_findPlace 67 = .ok (.istore 13, 2) := by decide +kernel
theorem dX10_findPlace_69 : decode cX10_findPlace 69 = .ok (.lload 5, 2) := by decide +kernel
theorem dX10_findPlace_71 : decode cX10_findPlace 71 = .ok (.aload_n 0, 1) := by decide +kernel
theorem dX10_findPlace_72 : decode cX10_findPlace 72 = .ok (.getfield 95, 3) := by decide +kernel
theorem dX10_findPlace_75 : decode cX10_findPlace 75 = .ok (.iload 13, 2) := by decide +kernel
theorem dX10_findPlace_77 : decode cX10_findPlace 77 = .ok (.laload, 1) := by decide +kernel
theorem dX10_findPlace_78 : decode cX10_findPlace 78 = .ok (.ladd, 1) := by decide +kernel
theorem dX10_findPlace_79 : decode cX10_findPlace 79 = .ok (.lstore 5, 2) := by decide +kernel
theorem dX10_findPlace_81 : decode cX10_findPlace 81 = .ok (.lload 7, 2) := by decide +kernel
theorem dX10_findPlace_83 : decode cX10_findPlace 83 = .ok (.iload 12, 2) := by decide +kernel
theorem dX10_findPlace_85 : decode cX10_findPlace 85 = .ok (.i2l, 1) := by decide +kernel
theorem dX10_findPlace_86 : decode cX10_findPlace 86 = .ok (.aload_n 0, 1) := by decide +kernel
theorem dX10_findPlace_87 : decode cX10_findPlace 87 = .ok (.getfield 99, 3) := by decide +kernel
theorem dX10_findPlace_90 : decode cX10_findPlace 90 = .ok (.iload 13, 2) := by decide +kernel
theorem dX10_findPlace_92 : decode cX10_findPlace 92 = .ok (.laload, 1) := by decide +kernel
theorem dX10_findPlace_93 : decode cX10_findPlace 93 = .ok (.lmul, 1) := by decide +kernel
theorem dX10_findPlace_94 : decode cX10_findPlace 94 = .ok (.ladd, 1) := by decide +kernel
theorem dX10_findPlace_95 : decode cX10_findPlace 95 = .ok (.lstore 7, 2) := by decide +kernel
theorem dX10_findPlace_97 : decode cX10_findPlace 97 = .ok (.iload 12, 2) := by decide +kernel
theorem dX10_findPlace_99 : decode cX10_findPlace 99 = .ok (.i2l, 1) := by decide +kernel
theorem dX10_findPlace_100 : decode cX10_findPlace 100 = .ok (.aload_n 0, 1) := by decide +kernel
theorem dX10_findPlace_101 : decode cX10_findPlace 101 = .ok (.getfield 102, 3) := by decide +kernel
theorem dX10_findPlace_104 : decode cX10_findPlace 104 = .ok (.iload 13, 2) := by decide +kernel
theorem dX10_findPlace_106 : decode cX10_findPlace 106 = .ok (.laload, 1) := by decide +kernel
theorem dX10_findPlace_107 : decode cX10_findPlace 107 = .ok (.lmul, 1) := by decide +kernel
theorem dX10_findPlace_108 : decode cX10_findPlace 108 = .ok (.lload 9, 2) := by decide +kernel
theorem dX10_findPlace_110 : decode cX10_findPlace 110 = .ok (.lcmp, 1) := by decide +kernel
theorem dX10_findPlace_111 : decode cX10_findPlace 111 = .ok (.ifCond .le 16, 3) := by decide +kernel
theorem dX10_findPlace_114 : decode cX10_findPlace 114 = .ok (.iload 12, 2) := by decide +kernel
theorem dX10_findPlace_116 : decode cX10_findPlace 116 = .ok (.i2l, 1) := by decide +kernel
theorem dX10_findPlace_117 : decode cX10_findPlace 117 = .ok (.aload_n 0, 1) := by decide +kernel
theorem dX10_findPlace_118 : decode cX10_findPlace 118 = .ok (.getfield 102, 3) := by decide +kernel
theorem dX10_findPlace_121 : decode cX10_findPlace 121 = .ok (.iload 13, 2) := by decide +kernel
theorem dX10_findPlace_123 : decode cX10_findPlace 123 = .ok (.laload, 1) := by decide +kernel
theorem dX10_findPlace_124 : decode cX10_findPlace 124 = .ok (.lmul, 1) := by decide +kernel
theorem dX10_findPlace_125 : decode cX10_findPlace 125 = .ok (.lstore 9, 2) := by decide +kernel
theorem dX10_findPlace_127 : decode cX10_findPlace 127 = .ok (.iinc 11 1, 3) := by decide +kernel
theorem dX10_findPlace_130 : decode cX10_findPlace 130 = .ok (.goto (-118), 3) := by decide +kernel
theorem dX10_findPlace_133 : decode cX10_findPlace 133 = .ok (.iload_n 1, 1) := by decide +kernel
theorem dX10_findPlace_134 : decode cX10_findPlace 134 = .ok (.iload_n 2, 1) := by decide +kernel
theorem dX10_findPlace_135 : decode cX10_findPlace 135 = .ok (.iload_n 3, 1) := by decide +kernel
theorem dX10_findPlace_136 : decode cX10_findPlace 136 = .ok (.iload 4, 2) := by decide +kernel
theorem dX10_findPlace_138 : decode cX10_findPlace 138 = .ok (.invokestatic 343, 3) := by decide +kernel
theorem dX10_findPlace_141 : decode cX10_findPlace 141 = .ok (.istore 11, 2) := by decide +kernel
theorem dX10_findPlace_143 : decode cX10_findPlace 143 = .ok (.aload_n 0, 1) := by decide +kernel
theorem dX10_findPlace_144 : decode cX10_findPlace 144 = .ok (.getfield 95, 3) := by decide +kernel
theorem dX10_findPlace_147 : decode cX10_findPlace 147 = .ok (.iload 11, 2) := by decide +kernel
theorem dX10_findPlace_149 : decode cX10_findPlace 149 = .ok (.lload 5, 2) := by decide +kernel
theorem dX10_findPlace_151 : decode cX10_findPlace 151 = .ok (.lastore, 1) := by decide +kernel
theorem dX10_findPlace_152 : decode cX10_findPlace 152 = .ok (.aload_n 0, 1) := by decide +kernel
theorem dX10_findPlace_153 : decode cX10_findPlace 153 = .ok (.getfield 99, 3) := by decide +kernel
theorem dX10_findPlace_156 : decode cX10_findPlace 156 = .ok (.iload 11, 2) := by decide +kernel
theorem dX10_findPlace_158 : decode cX10_findPlace 158 = .ok (.lload 7, 2) := by decide +kernel
theorem dX10_findPlace_160 : decode cX10_findPlace 160 = .ok (.lastore, 1) := by decide +kernel
theorem dX10_findPlace_161 : decode cX10_findPlace 161 = .ok (.aload_n 0, 1) := by decide +kernel
theorem dX10_findPlace_162 : decode cX10_findPlace 162 = .ok (.getfield 102, 3) := by decide +kernel
theorem dX10_findPlace_165 : decode cX10_findPlace 165 = .ok (.iload 11, 2) := by decide +kernel
theorem dX10_findPlace_167 : decode cX10_findPlace 167 = .ok (.lload 9, 2) := by decide +kernel
theorem dX10_findPlace_169 : decode cX10_findPlace 169 = .ok (.lastore, 1) := by decide +kernel
theorem dX10_findPlace_170 : decode cX10_findPlace 170 = .ok (.return_, 1) := by decide +kernel
theorem dX10_layFirst_0 : decode cX10_layFirst 0 = .ok (.aload_n 0, 1) := by decide +kernel
theorem dX10_layFirst_1 : decode cX10_layFirst 1 = .ok (.iload_n 1, 1) := by decide +kernel
theorem dX10_layFirst_2 : decode cX10_layFirst 2 = .ok (.invokevirtual 285, 3) := by decide +kernel
theorem dX10_layFirst_5 : decode cX10_layFirst 5 = .ok (.aload_n 0, 1) := by decide +kernel
theorem dX10_layFirst_6 : decode cX10_layFirst 6 = .ok (.getfield 266, 3) := by decide +kernel
theorem dX10_layFirst_9 : decode cX10_layFirst 9 = .ok (.bipush 6, 2) := by decide +kernel
theorem dX10_layFirst_11 : decode cX10_layFirst 11 = .ok (.if_icmp .le 9, 3) := by decide +kernel
theorem dX10_layFirst_14 : decode cX10_layFirst 14 = .ok (.aload_n 0, 1) := by decide +kernel
theorem dX10_layFirst_15 : decode cX10_layFirst 15 = .ok (.bipush 6, 2) := by decide +kernel
theorem dX10_layFirst_17 : decode cX10_layFirst 17 = .ok (.putfield 266, 3) := by decide +kernel
theorem dX10_layFirst_20 : decode cX10_layFirst 20 = .ok (.return_, 1) := by decide +kernel
theorem dX10_came_0 : decode cX10_came 0 = .ok (.iload_n 1, 1) := by decide +kernel
theorem dX10_came_1 : decode cX10_came 1 = .ok (.invokestatic 153, 3) := by decide +kernel
theorem dX10_came_4 : decode cX10_came 4 = .ok (.ifCond .eq 12, 3) := by decide +kernel
theorem dX10_came_7 : decode cX10_came 7 = .ok (.aload_n 0, 1) := by decide +kernel
theorem dX10_came_8 : decode cX10_came 8 = .ok (.iload_n 1, 1) := by decide +kernel
theorem dX10_came_9 : decode cX10_came 9 = .ok (.iconst 0, 1) := by decide +kernel
theorem dX10_came_10 : decode cX10_came 10 = .ok (.invokevirtual 282, 3) := by decide +kernel
theorem dX10_came_13 : decode cX10_came 13 = .ok (.ifCond .ge 7, 3) := by decide +kernel
theorem dX10_came_16 : decode cX10_came 16 = .ok (.ldc2_w 355, 3) := by decide +kernel
theorem dX10_came_19 : decode cX10_came 19 = .ok (.lreturn, 1) := by decide +kernel
theorem dX10_came_20 : decode cX10_came 20 = .ok (.aload_n 0, 1) := by decide +kernel
theorem dX10_came_21 : decode cX10_came 21 = .ok (.iload_n 1, 1) := by decide +kernel
theorem dX10_came_22 : decode cX10_came 22 = .ok (.invokevirtual 357, 3) := by decide +kernel
theorem dX10_came_25 : decode cX10_came 25 = .ok (.aload_n 0, 1) := by decide +kernel
theorem dX10_came_26 : decode cX10_came 26 = .ok (.iconst (-1), 1) := by decide +kernel
theorem dX10_came_27 : decode cX10_came 27 = .ok (.invokevirtual 360, 3) := by decide +kernel
theorem dX10_came_30 : decode cX10_came 30 = .ok (.aload_n 0, 1) := by decide +kernel
theorem dX10_came_31 : decode cX10_came 31 = .ok (.getfield 95, 3) := by decide +kernel
theorem dX10_came_34 : decode cX10_came 34 = .ok (.iconst 0, 1) := by decide +kernel
theorem dX10_came_35 : decode cX10_came 35 = .ok (.iconst 3, 1) := by decide +kernel
theorem dX10_came_36 : decode cX10_came 36 = .ok (.iconst 0, 1) := by decide +kernel
theorem dX10_came_37 : decode cX10_came 37 = .ok (.iconst 0, 1) := by decide +kernel
theorem dX10_came_38 : decode cX10_came 38 = .ok (.invokestatic 343, 3) := by decide +kernel
theorem dX10_came_41 : decode cX10_came 41 = .ok (.laload, 1) := by decide +kernel
theorem dX10_came_42 : decode cX10_came 42 = .ok (.lreturn, 1) := by decide +kernel
theorem dX10_cameAs_0 : decode cX10_cameAs 0 = .ok (.iload_n 1, 1) := by decide +kernel
theorem dX10_cameAs_1 : decode cX10_cameAs 1 = .ok (.invokestatic 153, 3) := by decide +kernel
theorem dX10_cameAs_4 : decode cX10_cameAs 4 = .ok (.ifCond .eq 7, 3) := by decide +kernel
theorem dX10_cameAs_7 : decode cX10_cameAs 7 = .ok (.iload_n 2, 1) := by decide +kernel
theorem dX10_cameAs_8 : decode cX10_cameAs 8 = .ok (.ifCond .ge 5, 3) := by decide +kernel
theorem dX10_cameAs_11 : decode cX10_cameAs 11 = .ok (.iconst (-1), 1) := by decide +kernel
theorem dX10_cameAs_12 : decode cX10_cameAs 12 = .ok (.ireturn, 1) := by decide +kernel
theorem dX10_cameAs_13 : decode cX10_cameAs 13 = .ok (.aload_n 0, 1) := by decide +kernel
theorem dX10_cameAs_14 : decode cX10_cameAs 14 = .ok (.iload_n 1, 1) := by decide +kernel
theorem dX10_cameAs_15 : decode cX10_cameAs 15 = .ok (.iconst 0, 1) := by decide +kernel
theorem dX10_cameAs_16 : decode cX10_cameAs 16 = .ok (.invokevirtual 282, 3) := by decide +kernel
theorem dX10_cameAs_19 : decode cX10_cameAs 19 = .ok (.istore_n 3, 1) := by decide +kernel
theorem dX10_cameAs_20 : decode cX10_cameAs 20 = .ok (.iload_n 3, 1) := by decide +kernel
theorem dX10_cameAs_21 : decode cX10_cameAs 21 = .ok (.ifCond .ge 5, 3) := by decide +kernel
theorem dX10_cameAs_24 : decode cX10_cameAs 24 = .ok (.iload_n 3, 1) := by decide +kernel
theorem dX10_cameAs_25 : decode cX10_cameAs 25 = .ok (.ireturn, 1) := by decide +kernel
theorem dX10_cameAs_26 : decode cX10_cameAs 26 = .ok (.aload_n 0, 1) := by decide +kernel
theorem dX10_cameAs_27 : decode cX10_cameAs 27 = .ok (.iload_n 1, 1) := by decide +kernel
theorem dX10_cameAs_28 : decode cX10_cameAs 28 = .ok (.invokevirtual 357, 3) := by decide +kernel
theorem dX10_cameAs_31 : decode cX10_cameAs 31 = .ok (.aload_n 0, 1) := by decide +kernel
theorem dX10_cameAs_32 : decode cX10_cameAs 32 = .ok (.iconst (-1), 1) := by decide +kernel
theorem dX10_cameAs_33 : decode cX10_cameAs 33 = .ok (.invokevirtual 360, 3) := by decide +kernel
theorem dX10_cameAs_36 : decode cX10_cameAs 36 = .ok (.iload_n 2, 1) := by decide +kernel
theorem dX10_cameAs_37 : decode cX10_cameAs 37 = .ok (.aload_n 0, 1) := by decide +kernel
theorem dX10_cameAs_38 : decode cX10_cameAs 38 = .ok (.getfield 266, 3) := by decide +kernel
theorem dX10_cameAs_41 : decode cX10_cameAs 41 = .ok (.if_icmp .ge 20, 3) := by decide +kernel
theorem dX10_cameAs_44 : decode cX10_cameAs 44 = .ok (.aload_n 0, 1) := by decide +kernel
theorem dX10_cameAs_45 : decode cX10_cameAs 45 = .ok (.getfield 102, 3) := by decide +kernel
theorem dX10_cameAs_48 : decode cX10_cameAs 48 = .ok (.iconst 0, 1) := by decide +kernel
theorem dX10_cameAs_49 : decode cX10_cameAs 49 = .ok (.iconst 3, 1) := by decide +kernel
theorem dX10_cameAs_50 : decode cX10_cameAs 50 = .ok (.iconst 0, 1) := by decide +kernel
theorem dX10_cameAs_51 : decode cX10_cameAs 51 = .ok (.iconst 0, 1) := by decide +kernel
theorem dX10_cameAs_52 : decode cX10_cameAs 52 = .ok (.invokestatic 343, 3) := by decide +kernel
theorem dX10_cameAs_55 : decode cX10_cameAs 55 = .ok (.laload, 1) := by decide +kernel
theorem dX10_cameAs_56 : decode cX10_cameAs 56 = .ok (.lconst 0, 1) := by decide +kernel
theorem dX10_cameAs_57 : decode cX10_cameAs 57 = .ok (.lcmp, 1) := by decide +kernel
theorem dX10_cameAs_58 : decode cX10_cameAs 58 = .ok (.ifCond .ne 6, 3) := by decide +kernel
theorem dX10_cameAs_61 : decode cX10_cameAs 61 = .ok (.bipush (-2), 2) := by decide +kernel
theorem dX10_cameAs_63 : decode cX10_cameAs 63 = .ok (.ireturn, 1) := by decide +kernel
theorem dX10_cameAs_64 : decode cX10_cameAs 64 = .ok (.iconst 3, 1) := by decide +kernel
theorem dX10_cameAs_65 : decode cX10_cameAs 65 = .ok (.istore 4, 2) := by decide +kernel
theorem dX10_cameAs_67 : decode cX10_cameAs 67 = .ok (.iconst 0, 1) := by decide +kernel
theorem dX10_cameAs_68 : decode cX10_cameAs 68 = .ok (.istore 5, 2) := by decide +kernel
theorem dX10_cameAs_70 : decode cX10_cameAs 70 = .ok (.iconst 0, 1) := by decide +kernel
theorem dX10_cameAs_71 : decode cX10_cameAs 71 = .ok (.istore 6, 2) := by decide +kernel
theorem dX10_cameAs_73 : decode cX10_cameAs 73 = .ok (.iload 6, 2) := by decide +kernel
theorem dX10_cameAs_75 : decode cX10_cameAs 75 = .ok (.iload_n 2, 1) := by decide +kernel
theorem dX10_cameAs_76 : decode cX10_cameAs 76 = .ok (.if_icmp .gt 110, 3) := by decide +kernel
theorem dX10_cameAs_79 : decode cX10_cameAs 79 = .ok (.iconst 0, 1) := by decide +kernel
theorem dX10_cameAs_80 : decode cX10_cameAs 80 = .ok (.istore 7, 2) := by decide +kernel
theorem dX10_cameAs_82 : decode cX10_cameAs 82 = .ok (.aload_n 0, 1) := by decide +kernel
theorem dX10_cameAs_83 : decode cX10_cameAs 83 = .ok (.getfield 18, 3) := by decide +kernel
theorem dX10_cameAs_86 : decode cX10_cameAs 86 = .ok (.iload 7, 2) := by decide +kernel
theorem dX10_cameAs_88 : decode cX10_cameAs 88 = .ok (.iaload, 1) := by decide +kernel
theorem dX10_cameAs_89 : decode cX10_cameAs 89 = .ok (.iload 4, 2) := by decide +kernel
theorem dX10_cameAs_91 : decode cX10_cameAs 91 = .ok (.invokestatic 278, 3) := by decide +kernel
theorem dX10_cameAs_94 : decode cX10_cameAs 94 = .ok (.ifCond .eq 53, 3) := by decide +kernel
theorem dX10_cameAs_97 : decode cX10_cameAs 97 = .ok (.aload_n 0, 1) := by decide +kernel
theorem dX10_cameAs_98 : decode cX10_cameAs 98 = .ok (.iload 7, 2) := by decide +kernel
theorem dX10_cameAs_100 : decode cX10_cameAs 100 = .ok (.aload_n 0, 1) := by decide +kernel
theorem dX10_cameAs_101 : decode cX10_cameAs 101 = .ok (.getfield 74, 3) := by decide +kernel
theorem dX10_cameAs_104 : decode cX10_cameAs 104 = .ok (.iload 6, 2) := by decide +kernel
theorem dX10_cameAs_106 : decode cX10_cameAs 106 = .ok (.iaload, 1) := by decide +kernel
theorem dX10_cameAs_107 : decode cX10_cameAs 107 = .ok (.invokevirtual 349, 3) := by decide +kernel
theorem dX10_cameAs_110 : decode cX10_cameAs 110 = .ok (.i2l, 1) := by decide +kernel
theorem dX10_cameAs_111 : decode cX10_cameAs 111 = .ok (.aload_n 0, 1) := by decide +kernel
theorem dX10_cameAs_112 : decode cX10_cameAs 112 = .ok (.getfield 102, 3) := by decide +kernel
theorem dX10_cameAs_115 : decode cX10_cameAs 115 = .ok (.aload_n 0, 1) := by decide +kernel
theorem dX10_cameAs_116 : decode cX10_cameAs 116 = .ok (.iload 6, 2) := by decide +kernel
theorem dX10_cameAs_118 : decode cX10_cameAs 118 = .ok (.iload 7, 2) := by decide +kernel
theorem dX10_cameAs_120 : decode cX10_cameAs 120 = .ok (.iload 5, 2) := by decide +kernel
theorem dX10_cameAs_122 : decode cX10_cameAs 122 = .ok (.iconst 0, 1) := by decide +kernel
theorem dX10_cameAs_123 : decode cX10_cameAs 123 = .ok (.invokevirtual 352, 3) := by decide +kernel
theorem dX10_cameAs_126 : decode cX10_cameAs 126 = .ok (.laload, 1) := by decide +kernel
theorem dX10_cameAs_127 : decode cX10_cameAs 127 = .ok (.lmul, 1) := by decide +kernel
theorem dX10_cameAs_128 : decode cX10_cameAs 128 = .ok (.aload_n 0, 1) := by decide +kernel
theorem dX10_cameAs_129 : decode cX10_cameAs 129 = .ok (.getfield 102, 3) := by decide +kernel
theorem dX10_cameAs_132 : decode cX10_cameAs 132 = .ok (.iload 6, 2) := by decide +kernel
theorem dX10_cameAs_134 : decode cX10_cameAs 134 = .ok (.iload 4, 2) := by decide +kernel
theorem dX10_cameAs_136 : decode cX10_cameAs 136 = .ok (.iload 5, 2) := by decide +kernel
theorem dX10_cameAs_138 : decode cX10_cameAs 138 = .ok (.iconst 0, 1) := by decide +kernel
theorem dX10_cameAs_139 : decode cX10_cameAs 139 = .ok (.invokestatic 343, 3) := by decide +kernel
theorem dX10_cameAs_142 : decode cX10_cameAs 142 = .ok (.laload, 1) := by decide +kernel
theorem dX10_cameAs_143 : decode cX10_cameAs 143 = .ok (.lcmp, 1) := by decide +kernel
theorem dX10_cameAs_144 : decode cX10_cameAs 144 = .ok (.ifCond .eq 9, 3) := by decide +kernel
theorem dX10_cameAs_147 : decode cX10_cameAs 147 = .ok (.iinc 7 1, 3) := by decide +kernel
theorem dX10_cameAs_150 : decode cX10_cameAs 150 = .ok (.goto (-68), 3) := by decide +kernel
theorem dX10_cameAs_153 : decode cX10_cameAs 153 = .ok (.iload 6, 2) := by decide +kernel
theorem dX10_cameAs_155 : decode cX10_cameAs 155 = .ok (.iload_n 2, 1) := by decide +kernel
theorem dX10_cameAs_156 : decode cX10_cameAs 156 = .ok (.if_icmp .ne 6, 3) := by decide +kernel
theorem dX10_cameAs_159 : decode cX10_cameAs 159 = .ok (.iload 7, 2) := by decide +kernel
theorem dX10_cameAs_161 : decode cX10_cameAs 161 = .ok (.ireturn, 1) := by decide +kernel
theorem dX10_cameAs_162 : decode cX10_cameAs 162 = .ok (.aload_n 0, 1) := by decide +kernel
theorem dX10_cameAs_163 : decode cX10_cameAs 163 = .ok (.getfield 18, 3) := by decide +kernel
theorem dX10_cameAs_166 : decode cX10_cameAs 166 = .ok (.iload 7, 2) := by decide +kernel
theorem dX10_cameAs_168 : decode cX10_cameAs 168 = .ok (.iaload, 1) := by decide +kernel
theorem dX10_cameAs_169 : decode cX10_cameAs 169 = .ok (.istore 4, 2) := by decide +kernel
theorem dX10_cameAs_171 : decode cX10_cameAs 171 = .ok (.iload 4, 2) := by decide +kernel
theorem dX10_cameAs_173 : decode cX10_cameAs 173 = .ok (.iconst 1, 1) := by decide +kernel
theorem dX10_cameAs_174 : decode cX10_cameAs 174 = .ok (.if_icmp .ne 6, 3) := by decide +kernel
theorem dX10_cameAs_177 : decode cX10_cameAs 177 = .ok (.iconst 1, 1) := by decide +kernel
theorem dX10_cameAs_178 : decode cX10_cameAs 178 = .ok (.istore 5, 2) := by decide +kernel
theorem dX10_cameAs_180 : decode cX10_cameAs 180 = .ok (.iinc 6 1, 3) := by decide +kernel
theorem dX10_cameAs_183 : decode cX10_cameAs 183 = .ok (.goto (-110), 3) := by decide +kernel
theorem dX10_cameAs_186 : decode cX10_cameAs 186 = .ok (.bipush (-2), 2) := by decide +kernel
theorem dX10_cameAs_188 : decode cX10_cameAs 188 = .ok (.ireturn, 1) := by decide +kernel
theorem dX10_lowest_0 : decode cX10_lowest 0 = .ok (.lload_n 0, 1) := by decide +kernel
theorem dX10_lowest_1 : decode cX10_lowest 1 = .ok (.lconst 0, 1) := by decide +kernel
theorem dX10_lowest_2 : decode cX10_lowest 2 = .ok (.lcmp, 1) := by decide +kernel
theorem dX10_lowest_3 : decode cX10_lowest 3 = .ok (.ifCond .ne 7, 3) := by decide +kernel
theorem dX10_lowest_6 : decode cX10_lowest 6 = .ok (.iload 4, 2) := by decide +kernel
theorem dX10_lowest_8 : decode cX10_lowest 8 = .ok (.i2l, 1) := by decide +kernel
theorem dX10_lowest_9 : decode cX10_lowest 9 = .ok (.lreturn, 1) := by decide +kernel
theorem dX10_lowest_10 : decode cX10_lowest 10 = .ok (.lload_n 0, 1) := by decide +kernel
theorem dX10_lowest_11 : decode cX10_lowest 11 = .ok (.lstore 5, 2) := by decide +kernel
theorem dX10_lowest_13 : decode cX10_lowest 13 = .ok (.lload_n 2, 1) := by decide +kernel
theorem dX10_lowest_14 : decode cX10_lowest 14 = .ok (.lstore 7, 2) := by decide +kernel
theorem dX10_lowest_16 : decode cX10_lowest 16 = .ok (.lload 7, 2) := by decide +kernel
theorem dX10_lowest_18 : decode cX10_lowest 18 = .ok (.lconst 0, 1) := by decide +kernel
theorem dX10_lowest_19 : decode cX10_lowest 19 = .ok (.lcmp, 1) := by decide +kernel
theorem dX10_lowest_20 : decode cX10_lowest 20 = .ok (.ifCond .eq 21, 3) := by decide +kernel
theorem dX10_lowest_23 : decode cX10_lowest 23 = .ok (.lload 5, 2) := by decide +kernel
theorem dX10_lowest_25 : decode cX10_lowest 25 = .ok (.lload 7, 2) := by decide +kernel
theorem dX10_lowest_27 : decode cX10_lowest 27 = .ok (.lrem, 1) := by decide +kernel
theorem dX10_lowest_28 : decode cX10_lowest 28 = .ok (.lstore 9, 2) := by decide +kernel
theorem dX10_lowest_30 : decode cX10_lowest 30 = .ok (.lload 7, 2) := by decide +kernel
theorem dX10_lowest_32 : decode cX10_lowest 32 = .ok (.lstore 5, 2) := by decide +kernel
theorem dX10_lowest_34 : decode cX10_lowest 34 = .ok (.lload 9, 2) := by decide +kernel
theorem dX10_lowest_36 : decode cX10_lowest 36 = .ok (.lstore 7, 2) := by decide +kernel
theorem dX10_lowest_38 : decode cX10_lowest 38 = .ok (.goto (-22), 3) := by decide +kernel
theorem dX10_lowest_41 : decode cX10_lowest 41 = .ok (.iload 4, 2) := by decide +kernel
theorem dX10_lowest_43 : decode cX10_lowest 43 = .ok (.ifCond .ne 10, 3) := by decide +kernel
theorem dX10_lowest_46 : decode cX10_lowest 46 = .ok (.lload_n 0, 1) := by decide +kernel
theorem dX10_lowest_47 : decode cX10_lowest 47 = .ok (.lload 5, 2) := by decide +kernel
theorem dX10_lowest_49 : decode cX10_lowest 49 = .ok (.ldiv, 1) := by decide +kernel
theorem dX10_lowest_50 : decode cX10_lowest 50 = .ok (.goto 7, 3) := by decide +kernel
theorem dX10_lowest_53 : decode cX10_lowest 53 = .ok (.lload_n 2, 1) := by decide +kernel
theorem dX10_lowest_54 : decode cX10_lowest 54 = .ok (.lload 5, 2) := by decide +kernel
theorem dX10_lowest_56 : decode cX10_lowest 56 = .ok (.ldiv, 1) := by decide +kernel
theorem dX10_lowest_57 : decode cX10_lowest 57 = .ok (.lreturn, 1) := by decide +kernel
theorem dX10_oddsWith_0 : decode cX10_oddsWith 0 = .ok (.aload_n 0, 1) := by decide +kernel
theorem dX10_oddsWith_1 : decode cX10_oddsWith 1 = .ok (.iload_n 1, 1) := by decide +kernel
theorem dX10_oddsWith_2 : decode cX10_oddsWith 2 = .ok (.invokevirtual 360, 3) := by decide +kernel
theorem dX10_oddsWith_5 : decode cX10_oddsWith 5 = .ok (.aload_n 0, 1) := by decide +kernel
theorem dX10_oddsWith_6 : decode cX10_oddsWith 6 = .ok (.getfield 99, 3) := by decide +kernel
theorem dX10_oddsWith_9 : decode cX10_oddsWith 9 = .ok (.iconst 0, 1) := by decide +kernel
theorem dX10_oddsWith_10 : decode cX10_oddsWith 10 = .ok (.iconst 3, 1) := by decide +kernel
theorem dX10_oddsWith_11 : decode cX10_oddsWith 11 = .ok (.iconst 0, 1) := by decide +kernel
theorem dX10_oddsWith_12 : decode cX10_oddsWith 12 = .ok (.iconst 0, 1) := by decide +kernel
theorem dX10_oddsWith_13 : decode cX10_oddsWith 13 = .ok (.invokestatic 343, 3) := by decide +kernel
theorem dX10_oddsWith_16 : decode cX10_oddsWith 16 = .ok (.laload, 1) := by decide +kernel
theorem dX10_oddsWith_17 : decode cX10_oddsWith 17 = .ok (.lreturn, 1) := by decide +kernel
theorem dX10_meant_0 : decode cX10_meant 0 = .ok (.iload_n 1, 1) := by decide +kernel
theorem dX10_meant_1 : decode cX10_meant 1 = .ok (.invokestatic 153, 3) := by decide +kernel
theorem dX10_meant_4 : decode cX10_meant 4 = .ok (.ifCond .eq 30, 3) := by decide +kernel
theorem dX10_meant_7 : decode cX10_meant 7 = .ok (.iload_n 2, 1) := by decide +kernel
theorem dX10_meant_8 : decode cX10_meant 8 = .ok (.iconst 0, 1) := by decide +kernel
theorem dX10_meant_9 : decode cX10_meant 9 = .ok (.iconst 5, 1) := by decide +kernel
theorem dX10_meant_10 : decode cX10_meant 10 = .ok (.invokestatic 142, 3) := by decide +kernel
theorem dX10_meant_13 : decode cX10_meant 13 = .ok (.ifCond .eq 21, 3) := by decide +kernel
theorem dX10_meant_16 : decode cX10_meant 16 = .ok (.iload_n 3, 1) := by decide +kernel
theorem dX10_meant_17 : decode cX10_meant 17 = .ok (.iconst 0, 1) := by decide +kernel
theorem dX10_meant_18 : decode cX10_meant 18 = .ok (.iconst 1, 1) := by decide +kernel
theorem dX10_meant_19 : decode cX10_meant 19 = .ok (.invokestatic 142, 3) := by decide +kernel
theorem dX10_meant_22 : decode cX10_meant 22 = .ok (.ifCond .eq 12, 3) := by decide +kernel
theorem dX10_meant_25 : decode cX10_meant 25 = .ok (.aload_n 0, 1) := by decide +kernel
theorem dX10_meant_26 : decode cX10_meant 26 = .ok (.iload_n 1, 1) := by decide +kernel
theorem dX10_meant_27 : decode cX10_meant 27 = .ok (.iconst 0, 1) := by decide +kernel
theorem dX10_meant_28 : decode cX10_meant 28 = .ok (.invokevirtual 282, 3) := by decide +kernel
theorem dX10_meant_31 : decode cX10_meant 31 = .ok (.ifCond .ge 7, 3) := by decide +kernel
theorem dX10_meant_34 : decode cX10_meant 34 = .ok (.ldc2_w 355, 3) := by decide +kernel
theorem dX10_meant_37 : decode cX10_meant 37 = .ok (.lreturn, 1) := by decide +kernel
theorem dX10_meant_38 : decode cX10_meant 38 = .ok (.aload_n 0, 1) := by decide +kernel
theorem dX10_meant_39 : decode cX10_meant 39 = .ok (.iload_n 1, 1) := by decide +kernel
theorem dX10_meant_40 : decode cX10_meant 40 = .ok (.invokevirtual 357, 3) := by decide +kernel
theorem dX10_meant_43 : decode cX10_meant 43 = .ok (.aload_n 0, 1) := by decide +kernel
theorem dX10_meant_44 : decode cX10_meant 44 = .ok (.iload_n 2, 1) := by decide +kernel
theorem dX10_meant_45 : decode cX10_meant 45 = .ok (.invokevirtual 363, 3) := by decide +kernel
theorem dX10_meant_48 : decode cX10_meant 48 = .ok (.lstore 4, 2) := by decide +kernel
theorem dX10_meant_50 : decode cX10_meant 50 = .ok (.lload 4, 2) := by decide +kernel
theorem dX10_meant_52 : decode cX10_meant 52 = .ok (.aload_n 0, 1) := by decide +kernel
theorem dX10_meant_53 : decode cX10_meant 53 = .ok (.iconst (-1), 1) := by decide +kernel
theorem dX10_meant_54 : decode cX10_meant 54 = .ok (.invokevirtual 363, 3) := by decide +kernel
theorem dX10_meant_57 : decode cX10_meant 57 = .ok (.iload_n 3, 1) := by decide +kernel
theorem dX10_meant_58 : decode cX10_meant 58 = .ok (.invokestatic 367, 3) := by decide +kernel
theorem dX10_meant_61 : decode cX10_meant 61 = .ok (.lreturn, 1) := by decide +kernel
theorem dX10_certain_0 : decode cX10_certain 0 = .ok (.iload_n 1, 1) := by decide +kernel
theorem dX10_certain_1 : decode cX10_certain 1 = .ok (.invokestatic 153, 3) := by decide +kernel
theorem dX10_certain_4 : decode cX10_certain 4 = .ok (.ifCond .ne 5, 3) := by decide +kernel
theorem dX10_certain_7 : decode cX10_certain 7 = .ok (.iconst (-1), 1) := by decide +kernel
theorem dX10_certain_8 : decode cX10_certain 8 = .ok (.ireturn, 1) := by decide +kernel
theorem dX10_certain_9 : decode cX10_certain 9 = .ok (.aload_n 0, 1) := by decide +kernel
theorem dX10_certain_10 : decode cX10_certain 10 = .ok (.iload_n 1, 1) := by decide +kernel
theorem dX10_certain_11 : decode cX10_certain 11 = .ok (.iconst 0, 1) := by decide +kernel
theorem dX10_certain_12 : decode cX10_certain 12 = .ok (.invokevirtual 282, 3) := by decide +kernel
theorem dX10_certain_15 : decode cX10_certain 15 = .ok (.istore_n 2, 1) := by decide +kernel
theorem dX10_certain_16 : decode cX10_certain 16 = .ok (.iload_n 2, 1) := by decide +kernel
theorem dX10_certain_17 : decode cX10_certain 17 = .ok (.ifCond .ge 5, 3) := by decide +kernel
theorem dX10_certain_20 : decode cX10_certain 20 = .ok (.iload_n 2, 1) := by decide +kernel
theorem dX10_certain_21 : decode cX10_certain 21 = .ok (.ireturn, 1) := by decide +kernel
theorem dX10_certain_22 : decode cX10_certain 22 = .ok (.aload_n 0, 1) := by decide +kernel
theorem dX10_certain_23 : decode cX10_certain 23 = .ok (.iload_n 1, 1) := by decide +kernel
theorem dX10_certain_24 : decode cX10_certain 24 = .ok (.invokevirtual 357, 3) := by decide +kernel
theorem dX10_certain_27 : decode cX10_certain 27 = .ok (.aload_n 0, 1) := by decide +kernel
theorem dX10_certain_28 : decode cX10_certain 28 = .ok (.iconst (-1), 1) := by decide +kernel
theorem dX10_certain_29 : decode cX10_certain 29 = .ok (.invokevirtual 363, 3) := by decide +kernel
theorem dX10_certain_32 : decode cX10_certain 32 = .ok (.lstore_n 3, 1) := by decide +kernel
theorem dX10_certain_33 : decode cX10_certain 33 = .ok (.iconst 0, 1) := by decide +kernel
theorem dX10_certain_34 : decode cX10_certain 34 = .ok (.istore 5, 2) := by decide +kernel
theorem dX10_certain_36 : decode cX10_certain 36 = .ok (.iconst 0, 1) := by decide +kernel
theorem dX10_certain_37 : decode cX10_certain 37 = .ok (.istore 6, 2) := by decide +kernel
theorem dX10_certain_39 : decode cX10_certain 39 = .ok (.iload 6, 2) := by decide +kernel
theorem dX10_certain_41 : decode cX10_certain 41 = .ok (.bipush 6, 2) := by decide +kernel
theorem dX10_certain_43 : decode cX10_certain 43 = .ok (.if_icmp .ge 35, 3) := by decide +kernel
theorem dX10_certain_46 : decode cX10_certain 46 = .ok (.lload_n 3, 1) := by decide +kernel
theorem dX10_certain_47 : decode cX10_certain 47 = .ok (.lconst 0, 1) := by decide +kernel
theorem dX10_certain_48 : decode cX10_certain 48 = .ok (.lcmp, 1) := by decide +kernel
theorem dX10_certain_49 : decode cX10_certain 49 = .ok (.ifCond .le 23, 3) := by decide +kernel
theorem dX10_certain_52 : decode cX10_certain 52 = .ok (.aload_n 0, 1) := by decide +kernel
theorem dX10_certain_53 : decode cX10_certain 53 = .ok (.iload 6, 2) := by decide +kernel
theorem dX10_certain_55 : decode cX10_certain 55 = .ok (.invokevirtual 363, 3) := by decide +kernel
theorem dX10_certain_58 : decode cX10_certain 58 = .ok (.lload_n 3, 1) := by decide +kernel
theorem dX10_certain_59 : decode cX10_certain 59 = .ok (.lcmp, 1) := by decide +kernel
theorem dX10_certain_60 : decode cX10_certain 60 = .ok (.ifCond .ne 12, 3) := by decide +kernel
theorem dX10_certain_63 : decode cX10_certain 63 = .ok (.iload 5, 2) := by decide +kernel
theorem dX10_certain_65 : decode cX10_certain 65 = .ok (.iconst 1, 1) := by decide +kernel
theorem dX10_certain_66 : decode cX10_certain 66 = .ok (.iload 6, 2) := by decide +kernel
theorem dX10_certain_68 : decode cX10_certain 68 = .ok (.ishl, 1) := by decide +kernel
theorem dX10_certain_69 : decode cX10_certain 69 = .ok (.ior, 1) := by decide +kernel
theorem dX10_certain_70 : decode cX10_certain 70 = .ok (.istore 5, 2) := by decide +kernel
theorem dX10_certain_72 : decode cX10_certain 72 = .ok (.iinc 6 1, 3) := by decide +kernel
theorem dX10_certain_75 : decode cX10_certain 75 = .ok (.goto (-36), 3) := by decide +kernel
theorem dX10_certain_78 : decode cX10_certain 78 = .ok (.iload 5, 2) := by decide +kernel
theorem dX10_certain_80 : decode cX10_certain 80 = .ok (.ireturn, 1) := by decide +kernel
theorem dX10_safe_0 : decode cX10_safe 0 = .ok (.iload_n 1, 1) := by decide +kernel
theorem dX10_safe_1 : decode cX10_safe 1 = .ok (.invokestatic 153, 3) := by decide +kernel
theorem dX10_safe_4 : decode cX10_safe 4 = .ok (.ifCond .eq 21, 3) := by decide +kernel
theorem dX10_safe_7 : decode cX10_safe 7 = .ok (.iload_n 2, 1) := by decide +kernel
theorem dX10_safe_8 : decode cX10_safe 8 = .ok (.iconst 0, 1) := by decide +kernel
theorem dX10_safe_9 : decode cX10_safe 9 = .ok (.iconst 1, 1) := by decide +kernel
theorem dX10_safe_10 : decode cX10_safe 10 = .ok (.invokestatic 142, 3) := by decide +kernel
theorem dX10_safe_13 : decode cX10_safe 13 = .ok (.ifCond .eq 12, 3) := by decide +kernel
theorem dX10_safe_16 : decode cX10_safe 16 = .ok (.aload_n 0, 1) := by decide +kernel
theorem dX10_safe_17 : decode cX10_safe 17 = .ok (.iload_n 1, 1) := by decide +kernel
theorem dX10_safe_18 : decode cX10_safe 18 = .ok (.iconst 0, 1) := by decide +kernel
theorem dX10_safe_19 : decode cX10_safe 19 = .ok (.invokevirtual 282, 3) := by decide +kernel
theorem dX10_safe_22 : decode cX10_safe 22 = .ok (.ifCond .ge 7, 3) := by decide +kernel
theorem dX10_safe_25 : decode cX10_safe 25 = .ok (.ldc2_w 355, 3) := by decide +kernel
theorem dX10_safe_28 : decode cX10_safe 28 = .ok (.lreturn, 1) := by decide +kernel
theorem dX10_safe_29 : decode cX10_safe 29 = .ok (.aload_n 0, 1) := by decide +kernel
theorem dX10_safe_30 : decode cX10_safe 30 = .ok (.iload_n 1, 1) := by decide +kernel
theorem dX10_safe_31 : decode cX10_safe 31 = .ok (.invokevirtual 357, 3) := by decide +kernel
theorem dX10_safe_34 : decode cX10_safe 34 = .ok (.aload_n 0, 1) := by decide +kernel
theorem dX10_safe_35 : decode cX10_safe 35 = .ok (.invokevirtual 295, 3) := by decide +kernel
theorem dX10_safe_38 : decode cX10_safe 38 = .ok (.istore_n 3, 1) := by decide +kernel
theorem dX10_safe_39 : decode cX10_safe 39 = .ok (.lconst 0, 1) := by decide +kernel
theorem dX10_safe_40 : decode cX10_safe 40 = .ok (.lstore 4, 2) := by decide +kernel
theorem dX10_safe_42 : decode cX10_safe 42 = .ok (.lconst 1, 1) := by decide +kernel
theorem dX10_safe_43 : decode cX10_safe 43 = .ok (.lstore 6, 2) := by decide +kernel
theorem dX10_safe_45 : decode cX10_safe 45 = .ok (.iconst 0, 1) := by decide +kernel
theorem dX10_safe_46 : decode cX10_safe 46 = .ok (.istore 8, 2) := by decide +kernel
theorem dX10_safe_48 : decode cX10_safe 48 = .ok (.iload 8, 2) := by decide +kernel
theorem dX10_safe_50 : decode cX10_safe 50 = .ok (.aload_n 0, 1) := by decide +kernel
theorem dX10_safe_51 : decode cX10_safe 51 = .ok (.getfield 266, 3) := by decide +kernel
theorem dX10_safe_54 : decode cX10_safe 54 = .ok (.if_icmp .ge 17, 3) := by decide +kernel
theorem dX10_safe_57 : decode cX10_safe 57 = .ok (.lload 6, 2) := by decide +kernel
theorem dX10_safe_59 : decode cX10_safe 59 = .ok (.ldc2_w 371, 3) := by decide +kernel
theorem dX10_safe_62 : decode cX10_safe 62 = .ok (.lmul, 1) := by decide +kernel
theorem dX10_safe_63 : decode cX10_safe 63 = .ok (.lstore 6, 2) := by decide +kernel
theorem dX10_safe_65 : decode cX10_safe 65 = .ok (.iinc 8 1, 3) := by decide +kernel
theorem dX10_safe_68 : decode cX10_safe 68 = .ok (.goto (-20), 3) := by decide +kernel
theorem dX10_safe_71 : decode cX10_safe 71 = .ok (.iconst 0, 1) := by decide +kernel
theorem dX10_safe_72 : decode cX10_safe 72 = .ok (.istore 8, 2) := by decide +kernel
theorem dX10_safe_74 : decode cX10_safe 74 = .ok (.iload 8, 2) := by decide +kernel
theorem dX10_safe_76 : decode cX10_safe 76 = .ok (.iconst 1, 1) := by decide +kernel
theorem dX10_safe_77 : decode cX10_safe 77 = .ok (.aload_n 0, 1) := by decide +kernel
theorem dX10_safe_78 : decode cX10_safe 78 = .ok (.getfield 266, 3) := by decide +kernel
theorem dX10_safe_81 : decode cX10_safe 81 = .ok (.ishl, 1) := by decide +kernel
theorem dX10_safe_82 : decode cX10_safe 82 = .ok (.if_icmp .ge 131, 3) := by decide +kernel
theorem dX10_safe_85 : decode cX10_safe 85 = .ok (.lconst 1, 1) := by decide +kernel
theorem dX10_safe_86 : decode cX10_safe 86 = .ok (.lstore 9, 2) := by decide +kernel
theorem dX10_safe_88 : decode cX10_safe 88 = .ok (.iconst 0, 1) := by decide +kernel
theorem dX10_safe_89 : decode cX10_safe 89 = .ok (.istore 11, 2) := by decide +kernel
theorem dX10_safe_91 : decode cX10_safe 91 = .ok (.iconst 0, 1) := by decide +kernel
theorem dX10_safe_92 : decode cX10_safe 92 = .ok (.istore 12, 2) := by decide +kernel
theorem dX10_safe_94 : decode cX10_safe 94 = .ok (.iload 12, 2) := by decide +kernel
theorem dX10_safe_96 : decode cX10_safe 96 = .ok (.aload_n 0, 1) := by decide +kernel
theorem dX10_safe_97 : decode cX10_safe 97 = .ok (.getfield 266, 3) := by decide +kernel
theorem dX10_safe_100 : decode cX10_safe 100 = .ok (.if_icmp .ge 94, 3) := by decide +kernel
theorem dX10_safe_103 : decode cX10_safe 103 = .ok (.iload 8, 2) := by decide +kernel
theorem dX10_safe_105 : decode cX10_safe 105 = .ok (.iload 12, 2) := by decide +kernel
theorem dX10_safe_107 : decode cX10_safe 107 = .ok (.ishr, 1) := by decide +kernel
theorem dX10_safe_108 : decode cX10_safe 108 = .ok (.iconst 1, 1) := by decide +kernel
theorem dX10_safe_109 : decode cX10_safe 109 = .ok (.iand, 1) := by decide +kernel
theorem dX10_safe_110 : decode cX10_safe 110 = .ok (.iconst 1, 1) := by decide +kernel
theorem dX10_safe_111 : decode cX10_safe 111 = .ok (.if_icmp .ne 7, 3) := by decide +kernel
theorem dX10_safe_114 : decode cX10_safe 114 = .ok (.iconst 1, 1) := by decide +kernel
theorem dX10_safe_115 : decode cX10_safe 115 = .ok (.goto 4, 3) := by decide +kernel
theorem dX10_safe_118 : decode cX10_safe 118 = .ok (.iconst 0, 1) := by decide +kernel
theorem dX10_safe_119 : decode cX10_safe 119 = .ok (.istore 13, 2) := by decide +kernel
theorem dX10_safe_121 : decode cX10_safe 121 = .ok (.lload 9, 2) := by decide +kernel
theorem dX10_safe_123 : decode cX10_safe 123 = .ok (.iload 13, 2) := by decide +kernel
theorem dX10_safe_125 : decode cX10_safe 125 = .ok (.ifCond .eq 13, 3) := by decide +kernel
theorem dX10_safe_128 : decode cX10_safe 128 = .ok (.aload_n 0, 1) := by decide +kernel
theorem dX10_safe_129 : decode cX10_safe 129 = .ok (.getfield 33, 3) := by decide +kernel
theorem dX10_safe_132 : decode cX10_safe 132 = .ok (.iconst 1, 1) := by decide +kernel
theorem dX10_safe_133 : decode cX10_safe 133 = .ok (.iaload, 1) := by decide +kernel
theorem dX10_safe_134 : decode cX10_safe 134 = .ok (.i2l, 1) := by decide +kernel
theorem dX10_safe_135 : decode cX10_safe 135 = .ok (.goto 13, 3) := by decide +kernel
theorem dX10_safe_138 : decode cX10_safe 138 = .ok (.bipush 12, 2) := by decide +kernel
theorem dX10_safe_140 : decode cX10_safe 140 = .ok (.aload_n 0, 1) := by decide +kernel
theorem dX10_safe_141 : decode cX10_safe 141 = .ok (.getfield 33, 3) := by decide +kernel
theorem dX10_safe_144 : decode cX10_safe 144 = .ok (.iconst 1, 1) := by decide +kernel
theorem dX10_safe_145 : decode cX10_safe 145 = .ok (.iaload, 1) := by decide +kernel
theorem dX10_safe_146 : decode cX10_safe 146 = .ok (.isub, 1) := by decide +kernel
theorem dX10_safe_147 : decode cX10_safe 147 = .ok (.i2l, 1) := by decide +kernel
theorem dX10_safe_148 : decode cX10_safe 148 = .ok (.lmul, 1) := by decide +kernel
theorem dX10_safe_149 : decode cX10_safe 149 = .ok (.lstore 9, 2) := by decide +kernel
theorem dX10_safe_151 : decode cX10_safe 151 = .ok (.iload 11, 2) := by decide +kernel
theorem dX10_safe_153 : decode cX10_safe 153 = .ok (.aload_n 0, 1) := by decide +kernel
theorem dX10_safe_154 : decode cX10_safe 154 = .ok (.getfield 15, 3) := by decide +kernel
theorem dX10_safe_157 : decode cX10_safe 157 = .ok (.iload 13, 2) := by decide +kernel
theorem dX10_safe_159 : decode cX10_safe 159 = .ok (.ifCond .eq 18, 3) := by decide +kernel
theorem dX10_safe_162 : decode cX10_safe 162 = .ok (.aload_n 0, 1) := by decide +kernel
theorem dX10_safe_163 : decode cX10_safe 163 = .ok (.getfield 24, 3) := by decide +kernel
theorem dX10_safe_166 : decode cX10_safe 166 = .ok (.aload_n 0, 1) := by decide +kernel
theorem dX10_safe_167 : decode cX10_safe 167 = .ok (.getfield 74, 3) := by decide +kernel
theorem dX10_safe_170 : decode cX10_safe 170 = .ok (.iload 12, 2) := by decide +kernel
theorem dX10_safe_172 : decode cX10_safe 172 = .ok (.iaload, 1) := by decide +kernel
theorem dX10_safe_173 : decode cX10_safe 173 = .ok (.iaload, 1) := by decide +kernel
theorem dX10_safe_174 : decode cX10_safe 174 = .ok (.goto 10, 3) := by decide +kernel
theorem dX10_safe_177 : decode cX10_safe 177 = .ok (.aload_n 0, 1) := by decide +kernel
theorem dX10_safe_178 : decode cX10_safe 178 = .ok (.getfield 74, 3) := by decide +kernel
theorem dX10_safe_181 : decode cX10_safe 181 = .ok (.iload 12, 2) := by decide +kernel
theorem dX10_safe_183 : decode cX10_safe 183 = .ok (.iaload, 1) := by decide +kernel
theorem dX10_safe_184 : decode cX10_safe 184 = .ok (.iaload, 1) := by decide +kernel
theorem dX10_safe_185 : decode cX10_safe 185 = .ok (.ior, 1) := by decide +kernel
theorem dX10_safe_186 : decode cX10_safe 186 = .ok (.istore 11, 2) := by decide +kernel
theorem dX10_safe_188 : decode cX10_safe 188 = .ok (.iinc 12 1, 3) := by decide +kernel
theorem dX10_safe_191 : decode cX10_safe 191 = .ok (.goto (-97), 3) := by decide +kernel
theorem dX10_safe_194 : decode cX10_safe 194 = .ok (.iload 11, 2) := by decide +kernel
theorem dX10_safe_196 : decode cX10_safe 196 = .ok (.iload_n 3, 1) := by decide +kernel
theorem dX10_safe_197 : decode cX10_safe 197 = .ok (.if_icmp .ne 10, 3) := by decide +kernel
theorem dX10_safe_200 : decode cX10_safe 200 = .ok (.lload 4, 2) := by decide +kernel
theorem dX10_safe_202 : decode cX10_safe 202 = .ok (.lload 9, 2) := by decide +kernel
theorem dX10_safe_204 : decode cX10_safe 204 = .ok (.ladd, 1) := by decide +kernel
theorem dX10_safe_205 : decode cX10_safe 205 = .ok (.lstore 4, 2) := by decide +kernel
theorem dX10_safe_207 : decode cX10_safe 207 = .ok (.iinc 8 1, 3) := by decide +kernel
theorem dX10_safe_210 : decode cX10_safe 210 = .ok (.goto (-136), 3) := by decide +kernel
theorem dX10_safe_213 : decode cX10_safe 213 = .ok (.lload 4, 2) := by decide +kernel
theorem dX10_safe_215 : decode cX10_safe 215 = .ok (.lload 6, 2) := by decide +kernel
theorem dX10_safe_217 : decode cX10_safe 217 = .ok (.iload_n 2, 1) := by decide +kernel
theorem dX10_safe_218 : decode cX10_safe 218 = .ok (.invokestatic 367, 3) := by decide +kernel
theorem dX10_safe_221 : decode cX10_safe 221 = .ok (.lreturn, 1) := by decide +kernel
theorem dX10_unsigned_0 : decode cX10_unsigned 0 = .ok (.iload_n 1, 1) := by decide +kernel
theorem dX10_unsigned_1 : decode cX10_unsigned 1 = .ok (.invokestatic 153, 3) := by decide +kernel
theorem dX10_unsigned_4 : decode cX10_unsigned 4 = .ok (.ifCond .eq 12, 3) := by decide +kernel
theorem dX10_unsigned_7 : decode cX10_unsigned 7 = .ok (.iload_n 2, 1) := by decide +kernel
theorem dX10_unsigned_8 : decode cX10_unsigned 8 = .ok (.iconst 0, 1) := by decide +kernel
theorem dX10_unsigned_9 : decode cX10_unsigned 9 = .ok (.iconst 1, 1) := by decide +kernel
theorem dX10_unsigned_10 : decode cX10_unsigned 10 = .ok (.invokestatic 142, 3) := by decide +kernel
theorem dX10_unsigned_13 : decode cX10_unsigned 13 = .ok (.ifCond .ne 5, 3) := by decide +kernel
theorem dX10_unsigned_16 : decode cX10_unsigned 16 = .ok (.iconst (-1), 1) := by decide +kernel
theorem dX10_unsigned_17 : decode cX10_unsigned 17 = .ok (.ireturn, 1) := by decide +kernel
theorem dX10_unsigned_18 : decode cX10_unsigned 18 = .ok (.aload_n 0, 1) := by decide +kernel
theorem dX10_unsigned_19 : decode cX10_unsigned 19 = .ok (.iload_n 1, 1) := by decide +kernel
theorem dX10_unsigned_20 : decode cX10_unsigned 20 = .ok (.iconst 0, 1) := by decide +kernel
theorem dX10_unsigned_21 : decode cX10_unsigned 21 = .ok (.invokevirtual 282, 3) := by decide +kernel
theorem dX10_unsigned_24 : decode cX10_unsigned 24 = .ok (.istore_n 3, 1) := by decide +kernel
theorem dX10_unsigned_25 : decode cX10_unsigned 25 = .ok (.iload_n 3, 1) := by decide +kernel
theorem dX10_unsigned_26 : decode cX10_unsigned 26 = .ok (.ifCond .ge 5, 3) := by decide +kernel
theorem dX10_unsigned_29 : decode cX10_unsigned 29 = .ok (.iload_n 3, 1) := by decide +kernel
theorem dX10_unsigned_30 : decode cX10_unsigned 30 = .ok (.ireturn, 1) := by decide +kernel
theorem dX10_unsigned_31 : decode cX10_unsigned 31 = .ok (.aload_n 0, 1) := by decide +kernel
theorem dX10_unsigned_32 : decode cX10_unsigned 32 = .ok (.iload_n 1, 1) := by decide +kernel
theorem dX10_unsigned_33 : decode cX10_unsigned 33 = .ok (.invokevirtual 285, 3) := by decide +kernel
theorem dX10_unsigned_36 : decode cX10_unsigned 36 = .ok (.bipush (-2), 2) := by decide +kernel
theorem dX10_unsigned_38 : decode cX10_unsigned 38 = .ok (.istore 4, 2) := by decide +kernel
theorem dX10_unsigned_40 : decode cX10_unsigned 40 = .ok (.iconst 0, 1) := by decide +kernel
theorem dX10_unsigned_41 : decode cX10_unsigned 41 = .ok (.istore 5, 2) := by decide +kernel
theorem dX10_unsigned_43 : decode cX10_unsigned 43 = .ok (.iconst 0, 1) := by decide +kernel
theorem dX10_unsigned_44 : decode cX10_unsigned 44 = .ok (.istore 6, 2) := by decide +kernel
theorem dX10_unsigned_46 : decode cX10_unsigned 46 = .ok (.iload 6, 2) := by decide +kernel
theorem dX10_unsigned_48 : decode cX10_unsigned 48 = .ok (.aload_n 0, 1) := by decide +kernel
theorem dX10_unsigned_49 : decode cX10_unsigned 49 = .ok (.getfield 146, 3) := by decide +kernel
theorem dX10_unsigned_52 : decode cX10_unsigned 52 = .ok (.if_icmp .ge 78, 3) := by decide +kernel
theorem dX10_unsigned_55 : decode cX10_unsigned 55 = .ok (.aload_n 0, 1) := by decide +kernel
theorem dX10_unsigned_56 : decode cX10_unsigned 56 = .ok (.invokevirtual 295, 3) := by decide +kernel
theorem dX10_unsigned_59 : decode cX10_unsigned 59 = .ok (.aload_n 0, 1) := by decide +kernel
theorem dX10_unsigned_60 : decode cX10_unsigned 60 = .ok (.getfield 30, 3) := by decide +kernel
theorem dX10_unsigned_63 : decode cX10_unsigned 63 = .ok (.iload 6, 2) := by decide +kernel
theorem dX10_unsigned_65 : decode cX10_unsigned 65 = .ok (.iaload, 1) := by decide +kernel
theorem dX10_unsigned_66 : decode cX10_unsigned 66 = .ok (.iconst (-1), 1) := by decide +kernel
theorem dX10_unsigned_67 : decode cX10_unsigned 67 = .ok (.ixor, 1) := by decide +kernel
theorem dX10_unsigned_68 : decode cX10_unsigned 68 = .ok (.iand, 1) := by decide +kernel
theorem dX10_unsigned_69 : decode cX10_unsigned 69 = .ok (.ifCond .ne 55, 3) := by decide +kernel
theorem dX10_unsigned_72 : decode cX10_unsigned 72 = .ok (.aload_n 0, 1) := by decide +kernel
theorem dX10_unsigned_73 : decode cX10_unsigned 73 = .ok (.getfield 27, 3) := by decide +kernel
theorem dX10_unsigned_76 : decode cX10_unsigned 76 = .ok (.iload 6, 2) := by decide +kernel
theorem dX10_unsigned_78 : decode cX10_unsigned 78 = .ok (.iaload, 1) := by decide +kernel
theorem dX10_unsigned_79 : decode cX10_unsigned 79 = .ok (.aload_n 0, 1) := by decide +kernel
theorem dX10_unsigned_80 : decode cX10_unsigned 80 = .ok (.invokevirtual 292, 3) := by decide +kernel
theorem dX10_unsigned_83 : decode cX10_unsigned 83 = .ok (.if_icmp .ge 6, 3) := by decide +kernel
theorem dX10_unsigned_86 : decode cX10_unsigned 86 = .ok (.goto 38, 3) := by decide +kernel
theorem dX10_unsigned_89 : decode cX10_unsigned 89 = .ok (.iload 5, 2) := by decide +kernel
theorem dX10_unsigned_91 : decode cX10_unsigned 91 = .ok (.iconst 1, 1) := by decide +kernel
theorem dX10_unsigned_92 : decode cX10_unsigned 92 = .ok (.iload 6, 2) := by decide +kernel
theorem dX10_unsigned_94 : decode cX10_unsigned 94 = .ok (.ishl, 1) := by decide +kernel
theorem dX10_unsigned_95 : decode cX10_unsigned 95 = .ok (.ior, 1) := by decide +kernel
theorem dX10_unsigned_96 : decode cX10_unsigned 96 = .ok (.istore 5, 2) := by decide +kernel
theorem dX10_unsigned_98 : decode cX10_unsigned 98 = .ok (.iload 4, 2) := by decide +kernel
theorem dX10_unsigned_100 : decode cX10_unsigned 100 = .ok (.ifCond .lt 20, 3) := by decide +kernel
theorem dX10_unsigned_103 : decode cX10_unsigned 103 = .ok (.aload_n 0, 1) := by decide +kernel
theorem dX10_unsigned_104 : decode cX10_unsigned 104 = .ok (.getfield 27, 3) := by decide +kernel
theorem dX10_unsigned_107 : decode cX10_unsigned 107 = .ok (.iload 6, 2) := by decide +kernel
theorem dX10_unsigned_109 : decode cX10_unsigned 109 = .ok (.iaload, 1) := by decide +kernel
theorem dX10_unsigned_110 : decode cX10_unsigned 110 = .ok (.aload_n 0, 1) := by decide +kernel
theorem dX10_unsigned_111 : decode cX10_unsigned 111 = .ok (.getfield 27, 3) := by decide +kernel
theorem dX10_unsigned_114 : decode cX10_unsigned 114 = .ok (.iload 4, 2) := by decide +kernel
theorem dX10_unsigned_116 : decode cX10_unsigned 116 = .ok (.iaload, 1) := by decide +kernel
theorem dX10_unsigned_117 : decode cX10_unsigned 117 = .ok (.if_icmp .le 7, 3) := by decide +kernel
theorem dX10_unsigned_120 : decode cX10_unsigned 120 = .ok (.iload 6, 2) := by decide +kernel
theorem dX10_unsigned_122 : decode cX10_unsigned 122 = .ok (.istore 4, 2) := by decide +kernel
theorem dX10_unsigned_124 : decode cX10_unsigned 124 = .ok (.iinc 6 1, 3) := by decide +kernel
theorem dX10_unsigned_127 : decode cX10_unsigned 127 = .ok (.goto (-81), 3) := by decide +kernel
theorem dX10_unsigned_130 : decode cX10_unsigned 130 = .ok (.iload_n 2, 1) := by decide +kernel
theorem dX10_unsigned_131 : decode cX10_unsigned 131 = .ok (.ifCond .ne 8, 3) := by decide +kernel
theorem dX10_unsigned_134 : decode cX10_unsigned 134 = .ok (.iload 5, 2) := by decide +kernel
theorem dX10_unsigned_136 : decode cX10_unsigned 136 = .ok (.goto 5, 3) := by decide +kernel
theorem dX10_unsigned_139 : decode cX10_unsigned 139 = .ok (.iload 4, 2) := by decide +kernel
theorem dX10_unsigned_141 : decode cX10_unsigned 141 = .ok (.ireturn, 1) := by decide +kernel
theorem dX10_club_0 : decode cX10_club 0 = .ok (.iload_n 1, 1) := by decide +kernel
theorem dX10_club_1 : decode cX10_club 1 = .ok (.iconst 0, 1) := by decide +kernel
theorem dX10_club_2 : decode cX10_club 2 = .ok (.iconst 1, 1) := by decide +kernel
theorem dX10_club_3 : decode cX10_club 3 = .ok (.aload_n 0, 1) := by decide +kernel
theorem dX10_club_4 : decode cX10_club 4 = .ok (.getfield 146, 3) := by decide +kernel
theorem dX10_club_7 : decode cX10_club 7 = .ok (.ishl, 1) := by decide +kernel
theorem dX10_club_8 : decode cX10_club 8 = .ok (.iconst 1, 1) := by decide +kernel
theorem dX10_club_9 : decode cX10_club 9 = .ok (.isub, 1) := by decide +kernel
theorem dX10_club_10 : decode cX10_club 10 = .ok (.invokestatic 142, 3) := by decide +kernel
theorem dX10_club_13 : decode cX10_club 13 = .ok (.ifCond .eq 22, 3) := by decide +kernel
theorem dX10_club_16 : decode cX10_club 16 = .ok (.iload_n 2, 1) := by decide +kernel
theorem dX10_club_17 : decode cX10_club 17 = .ok (.iconst 0, 1) := by decide +kernel
theorem dX10_club_18 : decode cX10_club 18 = .ok (.sipush 999, 3) := by decide +kernel
theorem dX10_club_21 : decode cX10_club 21 = .ok (.invokestatic 142, 3) := by decide +kernel
theorem dX10_club_24 : decode cX10_club 24 = .ok (.ifCond .eq 11, 3) := by decide +kernel
theorem dX10_club_27 : decode cX10_club 27 = .ok (.aload_n 0, 1) := by decide +kernel
theorem dX10_club_28 : decode cX10_club 28 = .ok (.iload_n 3, 1) := by decide +kernel
theorem dX10_club_29 : decode cX10_club 29 = .ok (.invokevirtual 176, 3) := by decide +kernel
theorem dX10_club_32 : decode cX10_club 32 = .ok (.ifCond .ne 5, 3) := by decide +kernel
theorem dX10_club_35 : decode cX10_club 35 = .ok (.iconst (-1), 1) := by decide +kernel
theorem dX10_club_36 : decode cX10_club 36 = .ok (.ireturn, 1) := by decide +kernel
theorem dX10_club_37 : decode cX10_club 37 = .ok (.iconst 0, 1) := by decide +kernel
theorem dX10_club_38 : decode cX10_club 38 = .ok (.istore 4, 2) := by decide +kernel
theorem dX10_club_40 : decode cX10_club 40 = .ok (.iconst 0, 1) := by decide +kernel
theorem dX10_club_41 : decode cX10_club 41 = .ok (.istore 5, 2) := by decide +kernel
theorem dX10_club_43 : decode cX10_club 43 = .ok (.iload 5, 2) := by decide +kernel
theorem dX10_club_45 : decode cX10_club 45 = .ok (.aload_n 0, 1) := by decide +kernel
theorem dX10_club_46 : decode cX10_club 46 = .ok (.getfield 146, 3) := by decide +kernel
theorem dX10_club_49 : decode cX10_club 49 = .ok (.if_icmp .ge 31, 3) := by decide +kernel
theorem dX10_club_52 : decode cX10_club 52 = .ok (.iload_n 1, 1) := by decide +kernel
theorem dX10_club_53 : decode cX10_club 53 = .ok (.iload 5, 2) := by decide +kernel
theorem dX10_club_55 : decode cX10_club 55 = .ok (.ishr, 1) := by decide +kernel
theorem dX10_club_56 : decode cX10_club 56 = .ok (.iconst 1, 1) := by decide +kernel
theorem dX10_club_57 : decode cX10_club 57 = .ok (.iand, 1) := by decide +kernel
theorem dX10_club_58 : decode cX10_club 58 = .ok (.iconst 1, 1) := by decide +kernel
theorem dX10_club_59 : decode cX10_club 59 = .ok (.if_icmp .ne 15, 3) := by decide +kernel
theorem dX10_club_62 : decode cX10_club 62 = .ok (.iload 4, 2) := by decide +kernel
theorem dX10_club_64 : decode cX10_club 64 = .ok (.aload_n 0, 1) := by decide +kernel
theorem dX10_club_65 : decode cX10_club 65 = .ok (.getfield 27, 3) := by decide +kernel
theorem dX10_club_68 : decode cX10_club 68 = .ok (.iload 5, 2) := by decide +kernel
theorem dX10_club_70 : decode cX10_club 70 = .ok (.iaload, 1) := by decide +kernel
theorem dX10_club_71 : decode cX10_club 71 = .ok (.iadd, 1) := by decide +kernel
theorem dX10_club_72 : decode cX10_club 72 = .ok (.istore 4, 2) := by decide +kernel
theorem dX10_club_74 : decode cX10_club 74 = .ok (.iinc 5 1, 3) := by decide +kernel
theorem dX10_club_77 : decode cX10_club 77 = .ok (.goto (-34), 3) := by decide +kernel
theorem dX10_club_80 : decode cX10_club 80 = .ok (.iload_n 1, 1) := by decide +kernel
theorem dX10_club_81 : decode cX10_club 81 = .ok (.iload_n 3, 1) := by decide +kernel
theorem dX10_club_82 : decode cX10_club 82 = .ok (.ishr, 1) := by decide +kernel
theorem dX10_club_83 : decode cX10_club 83 = .ok (.iconst 1, 1) := by decide +kernel
theorem dX10_club_84 : decode cX10_club 84 = .ok (.iand, 1) := by decide +kernel
theorem dX10_club_85 : decode cX10_club 85 = .ok (.ifCond .eq 9, 3) := by decide +kernel
theorem dX10_club_88 : decode cX10_club 88 = .ok (.iload 4, 2) := by decide +kernel
theorem dX10_club_90 : decode cX10_club 90 = .ok (.iload_n 2, 1) := by decide +kernel
theorem dX10_club_91 : decode cX10_club 91 = .ok (.if_icmp .ge 6, 3) := by decide +kernel
theorem dX10_club_94 : decode cX10_club 94 = .ok (.bipush (-2), 2) := by decide +kernel
theorem dX10_club_96 : decode cX10_club 96 = .ok (.ireturn, 1) := by decide +kernel
theorem dX10_club_97 : decode cX10_club 97 = .ok (.iload_n 2, 1) := by decide +kernel
theorem dX10_club_98 : decode cX10_club 98 = .ok (.ifCond .ne 5, 3) := by decide +kernel
theorem dX10_club_101 : decode cX10_club 101 = .ok (.iconst 0, 1) := by decide +kernel
theorem dX10_club_102 : decode cX10_club 102 = .ok (.ireturn, 1) := by decide +kernel
theorem dX10_club_103 : decode cX10_club 103 = .ok (.iload_n 2, 1) := by decide +kernel
theorem dX10_club_104 : decode cX10_club 104 = .ok (.istore 5, 2) := by decide +kernel
theorem dX10_club_106 : decode cX10_club 106 = .ok (.iconst 0, 1) := by decide +kernel
theorem dX10_club_107 : decode cX10_club 107 = .ok (.istore 6, 2) := by decide +kernel
theorem dX10_club_109 : decode cX10_club 109 = .ok (.iload 6, 2) := by decide +kernel
theorem dX10_club_111 : decode cX10_club 111 = .ok (.aload_n 0, 1) := by decide +kernel
theorem dX10_club_112 : decode cX10_club 112 = .ok (.getfield 146, 3) := by decide +kernel
theorem dX10_club_115 : decode cX10_club 115 = .ok (.if_icmp .ge 36, 3) := by decide +kernel
theorem dX10_club_118 : decode cX10_club 118 = .ok (.iload_n 1, 1) := by decide +kernel
theorem dX10_club_119 : decode cX10_club 119 = .ok (.iload 6, 2) := by decide +kernel
theorem dX10_club_121 : decode cX10_club 121 = .ok (.ishr, 1) := by decide +kernel
theorem dX10_club_122 : decode cX10_club 122 = .ok (.iconst 1, 1) := by decide +kernel
theorem dX10_club_123 : decode cX10_club 123 = .ok (.iand, 1) := by decide +kernel
theorem dX10_club_124 : decode cX10_club 124 = .ok (.iconst 1, 1) := by decide +kernel
theorem dX10_club_125 : decode cX10_club 125 = .ok (.if_icmp .ne 20, 3) := by decide +kernel
theorem dX10_club_128 : decode cX10_club 128 = .ok (.iload 5, 2) := by decide +kernel
theorem dX10_club_130 : decode cX10_club 130 = .ok (.iload_n 2, 1) := by decide +kernel
theorem dX10_club_131 : decode cX10_club 131 = .ok (.aload_n 0, 1) := by decide +kernel
theorem dX10_club_132 : decode cX10_club 132 = .ok (.getfield 27, 3) := by decide +kernel
theorem dX10_club_135 : decode cX10_club 135 = .ok (.iload 6, 2) := by decide +kernel
theorem dX10_club_137 : decode cX10_club 137 = .ok (.iaload, 1) := by decide +kernel
theorem dX10_club_138 : decode cX10_club 138 = .ok (.imul, 1) := by decide +kernel
theorem dX10_club_139 : decode cX10_club 139 = .ok (.iload 4, 2) := by decide +kernel
theorem dX10_club_141 : decode cX10_club 141 = .ok (.idiv, 1) := by decide +kernel
theorem dX10_club_142 : decode cX10_club 142 = .ok (.isub, 1) := by decide +kernel
theorem dX10_club_143 : decode cX10_club 143 = .ok (.istore 5, 2) := by decide +kernel
theorem dX10_club_145 : decode cX10_club 145 = .ok (.iinc 6 1, 3) := by decide +kernel
theorem dX10_club_148 : decode cX10_club 148 = .ok (.goto (-39), 3) := by decide +kernel
theorem dX10_club_151 : decode cX10_club 151 = .ok (.iload_n 1, 1) := by decide +kernel
theorem dX10_club_152 : decode cX10_club 152 = .ok (.iconst 1, 1) := by decide +kernel
theorem dX10_club_153 : decode cX10_club 153 = .ok (.iload_n 3, 1) := by decide +kernel
theorem dX10_club_154 : decode cX10_club 154 = .ok (.ishl, 1) := by decide +kernel
theorem dX10_club_155 : decode cX10_club 155 = .ok (.iconst 1, 1) := by decide +kernel
theorem dX10_club_156 : decode cX10_club 156 = .ok (.isub, 1) := by decide +kernel
theorem dX10_club_157 : decode cX10_club 157 = .ok (.iand, 1) := by decide +kernel
theorem dX10_club_158 : decode cX10_club 158 = .ok (.invokestatic 334, 3) := by decide +kernel
theorem dX10_club_161 : decode cX10_club 161 = .ok (.istore 6, 2) := by decide +kernel
theorem dX10_club_163 : decode cX10_club 163 = .ok (.iload_n 2, 1) := by decide +kernel
theorem dX10_club_164 : decode cX10_club 164 = .ok (.aload_n 0, 1) := by decide +kernel
theorem dX10_club_165 : decode cX10_club 165 = .ok (.getfield 27, 3) := by decide +kernel
theorem dX10_club_168 : decode cX10_club 168 = .ok (.iload_n 3, 1) := by decide +kernel
theorem dX10_club_169 : decode cX10_club 169 = .ok (.iaload, 1) := by decide +kernel
theorem dX10_club_170 : decode cX10_club 170 = .ok (.imul, 1) := by decide +kernel
theorem dX10_club_171 : decode cX10_club 171 = .ok (.iload 4, 2) := by decide +kernel
theorem dX10_club_173 : decode cX10_club 173 = .ok (.idiv, 1) := by decide +kernel
theorem dX10_club_174 : decode cX10_club 174 = .ok (.iload 6, 2) := by decide +kernel
theorem dX10_club_176 : decode cX10_club 176 = .ok (.iload 5, 2) := by decide +kernel
theorem dX10_club_178 : decode cX10_club 178 = .ok (.if_icmp .ge 7, 3) := by decide +kernel
theorem dX10_club_181 : decode cX10_club 181 = .ok (.iconst 1, 1) := by decide +kernel
theorem dX10_club_182 : decode cX10_club 182 = .ok (.goto 4, 3) := by decide +kernel
theorem dX10_club_185 : decode cX10_club 185 = .ok (.iconst 0, 1) := by decide +kernel
theorem dX10_club_186 : decode cX10_club 186 = .ok (.iadd, 1) := by decide +kernel
theorem dX10_club_187 : decode cX10_club 187 = .ok (.ireturn, 1) := by decide +kernel
theorem dX10_lacks_0 : decode cX10_lacks 0 = .ok (.iload_n 1, 1) := by decide +kernel
theorem dX10_lacks_1 : decode cX10_lacks 1 = .ok (.iconst 0, 1) := by decide +kernel
theorem dX10_lacks_2 : decode cX10_lacks 2 = .ok (.iconst 1, 1) := by decide +kernel
theorem dX10_lacks_3 : decode cX10_lacks 3 = .ok (.invokestatic 142, 3) := by decide +kernel
theorem dX10_lacks_6 : decode cX10_lacks 6 = .ok (.ifCond .ne 5, 3) := by decide +kernel
theorem dX10_lacks_9 : decode cX10_lacks 9 = .ok (.iconst (-1), 1) := by decide +kernel
theorem dX10_lacks_10 : decode cX10_lacks 10 = .ok (.ireturn, 1) := by decide +kernel
theorem dX10_lacks_11 : decode cX10_lacks 11 = .ok (.iconst 0, 1) := by decide +kernel
theorem dX10_lacks_12 : decode cX10_lacks 12 = .ok (.istore_n 2, 1) := by decide +kernel
theorem dX10_lacks_13 : decode cX10_lacks 13 = .ok (.bipush (-2), 2) := by decide +kernel
theorem dX10_lacks_15 : decode cX10_lacks 15 = .ok (.istore_n 3, 1) := by decide +kernel
theorem dX10_lacks_16 : decode cX10_lacks 16 = .ok (.iconst 0, 1) := by decide +kernel
theorem dX10_lacks_17 : decode cX10_lacks 17 = .ok (.istore 4, 2) := by decide +kernel
theorem dX10_lacks_19 : decode cX10_lacks 19 = .ok (.iload 4, 2) := by decide +kernel
theorem dX10_lacks_21 : decode cX10_lacks 21 = .ok (.aload_n 0, 1) := by decide +kernel
theorem dX10_lacks_22 : decode cX10_lacks 22 = .ok (.getfield 139, 3) := by decide +kernel
theorem dX10_lacks_25 : decode cX10_lacks 25 = .ok (.if_icmp .ge 76, 3) := by decide +kernel
theorem dX10_lacks_28 : decode cX10_lacks 28 = .ok (.iload_n 2, 1) := by decide +kernel
theorem dX10_lacks_29 : decode cX10_lacks 29 = .ok (.aload_n 0, 1) := by decide +kernel
theorem dX10_lacks_30 : decode cX10_lacks 30 = .ok (.getfield 15, 3) := by decide +kernel
theorem dX10_lacks_33 : decode cX10_lacks 33 = .ok (.iload 4, 2) := by decide +kernel
theorem dX10_lacks_35 : decode cX10_lacks 35 = .ok (.iaload, 1) := by decide +kernel
theorem dX10_lacks_36 : decode cX10_lacks 36 = .ok (.ior, 1) := by decide +kernel
theorem dX10_lacks_37 : decode cX10_lacks 37 = .ok (.istore_n 2, 1) := by decide +kernel
theorem dX10_lacks_38 : decode cX10_lacks 38 = .ok (.aload_n 0, 1) := by decide +kernel
theorem dX10_lacks_39 : decode cX10_lacks 39 = .ok (.getfield 15, 3) := by decide +kernel
theorem dX10_lacks_42 : decode cX10_lacks 42 = .ok (.iload 4, 2) := by decide +kernel
theorem dX10_lacks_44 : decode cX10_lacks 44 = .ok (.iaload, 1) := by decide +kernel
theorem dX10_lacks_45 : decode cX10_lacks 45 = .ok (.ifCond .ne 6, 3) := by decide +kernel
theorem dX10_lacks_48 : decode cX10_lacks 48 = .ok (.goto 47, 3) := by decide +kernel
theorem dX10_lacks_51 : decode cX10_lacks 51 = .ok (.iload_n 3, 1) := by decide +kernel
theorem dX10_lacks_52 : decode cX10_lacks 52 = .ok (.ifCond .lt 40, 3) := by decide +kernel
theorem dX10_lacks_55 : decode cX10_lacks 55 = .ok (.aload_n 0, 1) := by decide +kernel
theorem dX10_lacks_56 : decode cX10_lacks 56 = .ok (.getfield 9, 3) := by decide +kernel
theorem dX10_lacks_59 : decode cX10_lacks 59 = .ok (.iload 4, 2) := by decide +kernel
theorem dX10_lacks_61 : decode cX10_lacks 61 = .ok (.iaload, 1) := by decide +kernel
theorem dX10_lacks_62 : decode cX10_lacks 62 = .ok (.aload_n 0, 1) := by decide +kernel
theorem dX10_lacks_63 : decode cX10_lacks 63 = .ok (.getfield 15, 3) := by decide +kernel
theorem dX10_lacks_66 : decode cX10_lacks 66 = .ok (.iload_n 3, 1) := by decide +kernel
theorem dX10_lacks_67 : decode cX10_lacks 67 = .ok (.iaload, 1) := by decide +kernel
theorem dX10_lacks_68 : decode cX10_lacks 68 = .ok (.invokestatic 334, 3) := by decide +kernel
theorem dX10_lacks_71 : decode cX10_lacks 71 = .ok (.imul, 1) := by decide +kernel
theorem dX10_lacks_72 : decode cX10_lacks 72 = .ok (.aload_n 0, 1) := by decide +kernel
theorem dX10_lacks_73 : decode cX10_lacks 73 = .ok (.getfield 9, 3) := by decide +kernel
theorem dX10_lacks_76 : decode cX10_lacks 76 = .ok (.iload_n 3, 1) := by decide +kernel
theorem dX10_lacks_77 : decode cX10_lacks 77 = .ok (.iaload, 1) := by decide +kernel
theorem dX10_lacks_78 : decode cX10_lacks 78 = .ok (.aload_n 0, 1) := by decide +kernel
theorem dX10_lacks_79 : decode cX10_lacks 79 = .ok (.getfield 15, 3) := by decide +kernel
theorem dX10_lacks_82 : decode cX10_lacks 82 = .ok (.iload 4, 2) := by decide +kernel
theorem dX10_lacks_84 : decode cX10_lacks 84 = .ok (.iaload, 1) := by decide +kernel
theorem dX10_lacks_85 : decode cX10_lacks 85 = .ok (.invokestatic 334, 3) := by decide +kernel
theorem dX10_lacks_88 : decode cX10_lacks 88 = .ok (.imul, 1) := by decide +kernel
theorem dX10_lacks_89 : decode cX10_lacks 89 = .ok (.if_icmp .le 6, 3) := by decide +kernel
theorem dX10_lacks_92 : decode cX10_lacks 92 = .ok (.iload 4, 2) := by decide +kernel
theorem dX10_lacks_94 : decode cX10_lacks 94 = .ok (.istore_n 3, 1) := by decide +kernel
theorem dX10_lacks_95 : decode cX10_lacks 95 = .ok (.iinc 4 1, 3) := by decide +kernel
theorem dX10_lacks_98 : decode cX10_lacks 98 = .ok (.goto (-79), 3) := by decide +kernel
theorem dX10_lacks_101 : decode cX10_lacks 101 = .ok (.iload_n 1, 1) := by decide +kernel
theorem dX10_lacks_102 : decode cX10_lacks 102 = .ok (.ifCond .ne 12, 3) := by decide +kernel
theorem dX10_lacks_105 : decode cX10_lacks 105 = .ok (.bipush 63, 2) := by decide +kernel
theorem dX10_lacks_107 : decode cX10_lacks 107 = .ok (.iload_n 2, 1) := by decide +kernel
theorem dX10_lacks_108 : decode cX10_lacks 108 = .ok (.iconst (-1), 1) := by decide +kernel
theorem dX10_lacks_109 : decode cX10_lacks 109 = .ok (.ixor, 1) := by decide +kernel
theorem dX10_lacks_110 : decode cX10_lacks 110 = .ok (.iand, 1) := by decide +kernel
theorem dX10_lacks_111 : decode cX10_lacks 111 = .ok (.goto 4, 3) := by decide +kernel
theorem dX10_lacks_114 : decode cX10_lacks 114 = .ok (.iload_n 3, 1) := by decide +kernel
theorem dX10_lacks_115 : decode cX10_lacks 115 = .ok (.ireturn, 1) := by decide +kernel
theorem dX10_drawn_0 : decode cX10_drawn 0 = .ok (.iload_n 2, 1) := by decide +kernel
theorem dX10_drawn_1 : decode cX10_drawn 1 = .ok (.ifCond .lt 38, 3) := by decide +kernel
theorem dX10_drawn_4 : decode cX10_drawn 4 = .ok (.iload_n 2, 1) := by decide +kernel
theorem dX10_drawn_5 : decode cX10_drawn 5 = .ok (.bipush 100, 2) := by decide +kernel
theorem dX10_drawn_7 : decode cX10_drawn 7 = .ok (.idiv, 1) := by decide +kernel
theorem dX10_drawn_8 : decode cX10_drawn 8 = .ok (.iconst 1, 1) := by decide +kernel
theorem dX10_drawn_9 : decode cX10_drawn 9 = .ok (.bipush 30, 2) := by decide +kernel
theorem dX10_drawn_11 : decode cX10_drawn 11 = .ok (.invokestatic 142, 3) := by decide +kernel
theorem dX10_drawn_14 : decode cX10_drawn 14 = .ok (.ifCond .eq 25, 3) := by decide +kernel
theorem dX10_drawn_17 : decode cX10_drawn 17 = .ok (.iload_n 2, 1) := by decide +kernel
theorem dX10_drawn_18 : decode cX10_drawn 18 = .ok (.bipush 100, 2) := by decide +kernel
theorem dX10_drawn_20 : decode cX10_drawn 20 = .ok (.irem, 1) := by decide +kernel
theorem dX10_drawn_21 : decode cX10_drawn 21 = .ok (.iconst 1, 1) := by decide +kernel
theorem dX10_drawn_22 : decode cX10_drawn 22 = .ok (.bipush 20, 2) := by decide +kernel
theorem dX10_drawn_24 : decode cX10_drawn 24 = .ok (.invokestatic 142, 3) := by decide +kernel
theorem dX10_drawn_27 : decode cX10_drawn 27 = .ok (.ifCond .eq 12, 3) := by decide +kernel
theorem dX10_drawn_30 : decode cX10_drawn 30 = .ok (.iload_n 3, 1) := by decide +kernel
theorem dX10_drawn_31 : decode cX10_drawn 31 = .ok (.iconst 0, 1) := by decide +kernel
theorem dX10_drawn_32 : decode cX10_drawn 32 = .ok (.iconst 1, 1) := by decide +kernel
theorem dX10_drawn_33 : decode cX10_drawn 33 = .ok (.invokestatic 142, 3) := by decide +kernel
theorem dX10_drawn_36 : decode cX10_drawn 36 = .ok (.ifCond .ne 5, 3) := by decide +kernel
theorem dX10_drawn_39 : decode cX10_drawn 39 = .ok (.iconst (-1), 1) := by decide +kernel
theorem dX10_drawn_40 : decode cX10_drawn 40 = .ok (.ireturn, 1) := by decide +kernel
theorem dX10_drawn_41 : decode cX10_drawn 41 = .ok (.iload_n 1, 1) := by decide +kernel
theorem dX10_drawn_42 : decode cX10_drawn 42 = .ok (.istore 4, 2) := by decide +kernel
theorem dX10_drawn_44 : decode cX10_drawn 44 = .ok (.iconst 0, 1) := by decide +kernel
theorem dX10_drawn_45 : decode cX10_drawn 45 = .ok (.istore 5, 2) := by decide +kernel
theorem dX10_drawn_47 : decode cX10_drawn 47 = .ok (.iconst 0, 1) := by decide +kernel
theorem dX10_drawn_48 : decode cX10_drawn 48 = .ok (.istore 6, 2) := by decide +kernel
theorem dX10_drawn_50 : decode cX10_drawn 50 = .ok (.iconst 0, 1) := by decide +kernel
theorem dX10_drawn_51 : decode cX10_drawn 51 = .ok (.istore 7, 2) := by decide +kernel
theorem dX10_drawn_53 : decode cX10_drawn 53 = .ok (.iload 7, 2) := by decide +kernel
theorem dX10_drawn_55 : decode cX10_drawn 55 = .ok (.iload_n 2, 1) := by decide +kernel
theorem dX10_drawn_56 : decode cX10_drawn 56 = .ok (.bipush 100, 2) := by decide +kernel
theorem dX10_drawn_58 : decode cX10_drawn 58 = .ok (.idiv, 1) := by decide +kernel
theorem dX10_drawn_59 : decode cX10_drawn 59 = .ok (.iload_n 2, 1) := by decide +kernel
theorem dX10_drawn_60 : decode cX10_drawn 60 = .ok (.bipush 100, 2) := by decide +kernel
theorem dX10_drawn_62 : decode cX10_drawn 62 = .ok (.irem, 1) := by decide +kernel
theorem dX10_drawn_63 : decode cX10_drawn 63 = .ok (.imul, 1) := by decide +kernel
theorem dX10_drawn_64 : decode cX10_drawn 64 = .ok (.if_icmp .ge 139, 3) := by decide +kernel
theorem dX10_drawn_67 : decode cX10_drawn 67 = .ok (.aload_n 0, 1) := by decide +kernel
theorem dX10_drawn_68 : decode cX10_drawn 68 = .ok (.getfield 139, 3) := by decide +kernel
theorem dX10_drawn_71 : decode cX10_drawn 71 = .ok (.ifCond .le 132, 3) := by decide +kernel
theorem dX10_drawn_74 : decode cX10_drawn 74 = .ok (.aload_n 0, 1) := by decide +kernel
theorem dX10_drawn_75 : decode cX10_drawn 75 = .ok (.iconst 3, 1) := by decide +kernel
theorem dX10_drawn_76 : decode cX10_drawn 76 = .ok (.putfield 266, 3) := by decide +kernel
theorem dX10_drawn_79 : decode cX10_drawn 79 = .ok (.iconst 0, 1) := by decide +kernel
theorem dX10_drawn_80 : decode cX10_drawn 80 = .ok (.istore 8, 2) := by decide +kernel
theorem dX10_drawn_82 : decode cX10_drawn 82 = .ok (.iconst 0, 1) := by decide +kernel
theorem dX10_drawn_83 : decode cX10_drawn 83 = .ok (.istore 9, 2) := by decide +kernel
theorem dX10_drawn_85 : decode cX10_drawn 85 = .ok (.iload 9, 2) := by decide +kernel
theorem dX10_drawn_87 : decode cX10_drawn 87 = .ok (.iconst 3, 1) := by decide +kernel
theorem dX10_drawn_88 : decode cX10_drawn 88 = .ok (.if_icmp .ge 87, 3) := by decide +kernel
theorem dX10_drawn_91 : decode cX10_drawn 91 = .ok (.iload 4, 2) := by decide +kernel
theorem dX10_drawn_93 : decode cX10_drawn 93 = .ok (.ldc_w 373, 3) := by decide +kernel
theorem dX10_drawn_96 : decode cX10_drawn 96 = .ok (.imul, 1) := by decide +kernel
theorem dX10_drawn_97 : decode cX10_drawn 97 = .ok (.sipush 12345, 3) := by decide +kernel
theorem dX10_drawn_100 : decode cX10_drawn 100 = .ok (.iadd, 1) := by decide +kernel
theorem dX10_drawn_101 : decode cX10_drawn 101 = .ok (.istore 4, 2) := by decide +kernel
theorem dX10_drawn_103 : decode cX10_drawn 103 = .ok (.aload_n 0, 1) := by decide +kernel
theorem dX10_drawn_104 : decode cX10_drawn 104 = .ok (.getfield 74, 3) := by decide +kernel
theorem dX10_drawn_107 : decode cX10_drawn 107 = .ok (.iload 9, 2) := by decide +kernel
theorem dX10_drawn_109 : decode cX10_drawn 109 = .ok (.iload 4, 2) := by decide +kernel
theorem dX10_drawn_111 : decode cX10_drawn 111 = .ok (.bipush 10, 2) := by decide +kernel
theorem dX10_drawn_113 : decode cX10_drawn 113 = .ok (.iushr, 1) := by decide +kernel
theorem dX10_drawn_114 : decode cX10_drawn 114 = .ok (.aload_n 0, 1) := by decide +kernel
theorem dX10_drawn_115 : decode cX10_drawn 115 = .ok (.getfield 139, 3) := by decide +kernel
theorem dX10_drawn_118 : decode cX10_drawn 118 = .ok (.irem, 1) := by decide +kernel
theorem dX10_drawn_119 : decode cX10_drawn 119 = .ok (.iastore, 1) := by decide +kernel
theorem dX10_drawn_120 : decode cX10_drawn 120 = .ok (.iload 8, 2) := by decide +kernel
theorem dX10_drawn_122 : decode cX10_drawn 122 = .ok (.aload_n 0, 1) := by decide +kernel
theorem dX10_drawn_123 : decode cX10_drawn 123 = .ok (.getfield 15, 3) := by decide +kernel
theorem dX10_drawn_126 : decode cX10_drawn 126 = .ok (.iload 4, 2) := by decide +kernel
theorem dX10_drawn_128 : decode cX10_drawn 128 = .ok (.bipush 18, 2) := by decide +kernel
theorem dX10_drawn_130 : decode cX10_drawn 130 = .ok (.iushr, 1) := by decide +kernel
theorem dX10_drawn_131 : decode cX10_drawn 131 = .ok (.bipush 12, 2) := by decide +kernel
theorem dX10_drawn_133 : decode cX10_drawn 133 = .ok (.irem, 1) := by decide +kernel
theorem dX10_drawn_134 : decode cX10_drawn 134 = .ok (.aload_n 0, 1) := by decide +kernel
theorem dX10_drawn_135 : decode cX10_drawn 135 = .ok (.getfield 33, 3) := by decide +kernel
theorem dX10_drawn_138 : decode cX10_drawn 138 = .ok (.iconst 1, 1) := by decide +kernel
theorem dX10_drawn_139 : decode cX10_drawn 139 = .ok (.iaload, 1) := by decide +kernel
theorem dX10_drawn_140 : decode cX10_drawn 140 = .ok (.if_icmp .ge 18, 3) := by decide +kernel
theorem dX10_drawn_143 : decode cX10_drawn 143 = .ok (.aload_n 0, 1) := by decide +kernel
theorem dX10_drawn_144 : decode cX10_drawn 144 = .ok (.getfield 24, 3) := by decide +kernel
theorem dX10_drawn_147 : decode cX10_drawn 147 = .ok (.aload_n 0, 1) := by decide +kernel
theorem dX10_drawn_148 : decode cX10_drawn 148 = .ok (.getfield 74, 3) := by decide +kernel
theorem dX10_drawn_151 : decode cX10_drawn 151 = .ok (.iload 9, 2) := by decide +kernel
theorem dX10_drawn_153 : decode cX10_drawn 153 = .ok (.iaload, 1) := by decide +kernel
theorem dX10_drawn_154 : decode cX10_drawn 154 = .ok (.iaload, 1) := by decide +kernel
theorem dX10_drawn_155 : decode cX10_drawn 155 = .ok (.goto 10, 3) := by decide +kernel
theorem dX10_drawn_158 : decode cX10_drawn 158 = .ok (.aload_n 0, 1) := by decide +kernel
theorem dX10_drawn_159 : decode cX10_drawn 159 = .ok (.getfield 74, 3) := by decide +kernel
theorem dX10_drawn_162 : decode cX10_drawn 162 = .ok (.iload 9, 2) := by decide +kernel
theorem dX10_drawn_164 : decode cX10_drawn 164 = .ok (.iaload, 1) := by decide +kernel
theorem dX10_drawn_165 : decode cX10_drawn 165 = .ok (.iaload, 1) := by decide +kernel
theorem dX10_drawn_166 : decode cX10_drawn 166 = .ok (.ior, 1) := by decide +kernel
theorem dX10_drawn_167 : decode cX10_drawn 167 = .ok (.istore 8, 2) := by decide +kernel
theorem dX10_drawn_169 : decode cX10_drawn 169 = .ok (.iinc 9 1, 3) := by decide +kernel
theorem dX10_drawn_172 : decode cX10_drawn 172 = .ok (.goto (-87), 3) := by decide +kernel
theorem dX10_drawn_175 : decode cX10_drawn 175 = .ok (.aload_n 0, 1) := by decide +kernel
theorem dX10_drawn_176 : decode cX10_drawn 176 = .ok (.invokevirtual 298, 3) := by decide +kernel
theorem dX10_drawn_179 : decode cX10_drawn 179 = .ok (.ifCond .eq 6, 3) := by decide +kernel
theorem dX10_drawn_182 : decode cX10_drawn 182 = .ok (.iinc 5 1, 3) := by decide +kernel
theorem dX10_drawn_185 : decode cX10_drawn 185 = .ok (.iload 8, 2) := by decide +kernel
theorem dX10_drawn_187 : decode cX10_drawn 187 = .ok (.aload_n 0, 1) := by decide +kernel
theorem dX10_drawn_188 : decode cX10_drawn 188 = .ok (.invokevirtual 295, 3) := by decide +kernel
theorem dX10_drawn_191 : decode cX10_drawn 191 = .ok (.if_icmp .eq 6, 3) := by decide +kernel
theorem dX10_drawn_194 : decode cX10_drawn 194 = .ok (.iinc 6 1, 3) := by decide +kernel
theorem dX10_drawn_197 : decode cX10_drawn 197 = .ok (.iinc 7 1, 3) := by decide +kernel
theorem dX10_drawn_200 : decode cX10_drawn 200 = .ok (.goto (-147), 3) := by decide +kernel
theorem dX10_drawn_203 : decode cX10_drawn 203 = .ok (.iload_n 3, 1) := by decide +kernel
theorem dX10_drawn_204 : decode cX10_drawn 204 = .ok (.ifCond .ne 8, 3) := by decide +kernel
theorem dX10_drawn_207 : decode cX10_drawn 207 = .ok (.iload 5, 2) := by decide +kernel
theorem dX10_drawn_209 : decode cX10_drawn 209 = .ok (.goto 5, 3) := by decide +kernel
theorem dX10_drawn_212 : decode cX10_drawn 212 = .ok (.iload 6, 2) := by decide +kernel
theorem dX10_drawn_214 : decode cX10_drawn 214 = .ok (.ireturn, 1) := by decide +kernel
theorem dX10_send_0 : decode cX10_send 0 = .ok (.iload_n 1, 1) := by decide +kernel
theorem dX10_send_1 : decode cX10_send 1 = .ok (.invokestatic 153, 3) := by decide +kernel
theorem dX10_send_4 : decode cX10_send 4 = .ok (.ifCond .eq 40, 3) := by decide +kernel
theorem dX10_send_7 : decode cX10_send 7 = .ok (.iload_n 2, 1) := by decide +kernel
theorem dX10_send_8 : decode cX10_send 8 = .ok (.ifCond .lt 36, 3) := by decide +kernel
theorem dX10_send_11 : decode cX10_send 11 = .ok (.aload_n 0, 1) := by decide +kernel
theorem dX10_send_12 : decode cX10_send 12 = .ok (.iload_n 2, 1) := by decide +kernel
theorem dX10_send_13 : decode cX10_send 13 = .ok (.bipush 10, 2) := by decide +kernel
theorem dX10_send_15 : decode cX10_send 15 = .ok (.idiv, 1) := by decide +kernel
theorem dX10_send_16 : decode cX10_send 16 = .ok (.invokevirtual 176, 3) := by decide +kernel
theorem dX10_send_19 : decode cX10_send 19 = .ok (.ifCond .eq 25, 3) := by decide +kernel
theorem dX10_send_22 : decode cX10_send 22 = .ok (.aload_n 0, 1) := by decide +kernel
theorem dX10_send_23 : decode cX10_send 23 = .ok (.iload_n 2, 1) := by decide +kernel
theorem dX10_send_24 : decode cX10_send 24 = .ok (.bipush 10, 2) := by decide +kernel
theorem dX10_send_26 : decode cX10_send 26 = .ok (.irem, 1) := by decide +kernel
theorem dX10_send_27 : decode cX10_send 27 = .ok (.invokevirtual 176, 3) := by decide +kernel
theorem dX10_send_30 : decode cX10_send 30 = .ok (.ifCond .eq 14, 3) := by decide +kernel
theorem dX10_send_33 : decode cX10_send 33 = .ok (.iload_n 2, 1) := by decide +kernel
theorem dX10_send_34 : decode cX10_send 34 = .ok (.bipush 10, 2) := by decide +kernel
theorem dX10_send_36 : decode cX10_send 36 = .ok (.idiv, 1) := by decide +kernel
theorem dX10_send_37 : decode cX10_send 37 = .ok (.iload_n 2, 1) := by decide +kernel
theorem dX10_send_38 : decode cX10_send 38 = .ok (.bipush 10, 2) := by decide +kernel
theorem dX10_send_40 : decode cX10_send 40 = .ok (.irem, 1) := by decide +kernel
theorem dX10_send_41 : decode cX10_send 41 = .ok (.if_icmp .ne 5, 3) := by decide +kernel
theorem dX10_send_44 : decode cX10_send 44 = .ok (.iconst (-1), 1) := by decide +kernel
theorem dX10_send_45 : decode cX10_send 45 = .ok (.ireturn, 1) := by decide +kernel
theorem dX10_send_46 : decode cX10_send 46 = .ok (.aload_n 0, 1) := by decide +kernel
theorem dX10_send_47 : decode cX10_send 47 = .ok (.iload_n 1, 1) := by decide +kernel
theorem dX10_send_48 : decode cX10_send 48 = .ok (.iconst 0, 1) := by decide +kernel
theorem dX10_send_49 : decode cX10_send 49 = .ok (.invokevirtual 282, 3) := by decide +kernel
theorem dX10_send_52 : decode cX10_send 52 = .ok (.istore_n 3, 1) := by decide +kernel
theorem dX10_send_53 : decode cX10_send 53 = .ok (.iload_n 3, 1) := by decide +kernel
theorem dX10_send_54 : decode cX10_send 54 = .ok (.ifCond .ge 5, 3) := by decide +kernel
theorem dX10_send_57 : decode cX10_send 57 = .ok (.iload_n 3, 1) := by decide +kernel
theorem dX10_send_58 : decode cX10_send 58 = .ok (.ireturn, 1) := by decide +kernel
theorem dX10_send_59 : decode cX10_send 59 = .ok (.aload_n 0, 1) := by decide +kernel
theorem dX10_send_60 : decode cX10_send 60 = .ok (.iload_n 1, 1) := by decide +kernel
theorem dX10_send_61 : decode cX10_send 61 = .ok (.invokevirtual 285, 3) := by decide +kernel
theorem dX10_send_64 : decode cX10_send 64 = .ok (.iload_n 2, 1) := by decide +kernel
theorem dX10_send_65 : decode cX10_send 65 = .ok (.bipush 10, 2) := by decide +kernel
theorem dX10_send_67 : decode cX10_send 67 = .ok (.idiv, 1) := by decide +kernel
theorem dX10_send_68 : decode cX10_send 68 = .ok (.istore 4, 2) := by decide +kernel
theorem dX10_send_70 : decode cX10_send 70 = .ok (.aload_n 0, 1) := by decide +kernel
theorem dX10_send_71 : decode cX10_send 71 = .ok (.invokevirtual 292, 3) := by decide +kernel
theorem dX10_send_74 : decode cX10_send 74 = .ok (.istore 5, 2) := by decide +kernel
theorem dX10_send_76 : decode cX10_send 76 = .ok (.aload_n 0, 1) := by decide +kernel
theorem dX10_send_77 : decode cX10_send 77 = .ok (.invokevirtual 298, 3) := by decide +kernel
theorem dX10_send_80 : decode cX10_send 80 = .ok (.ifCond .ne 16, 3) := by decide +kernel
theorem dX10_send_83 : decode cX10_send 83 = .ok (.aload_n 0, 1) := by decide +kernel
theorem dX10_send_84 : decode cX10_send 84 = .ok (.getfield 105, 3) := by decide +kernel
theorem dX10_send_87 : decode cX10_send 87 = .ok (.iconst 3, 1) := by decide +kernel
theorem dX10_send_88 : decode cX10_send 88 = .ok (.dup2, 1) := by decide +kernel
theorem dX10_send_89 : decode cX10_send 89 = .ok (.iaload, 1) := by decide +kernel
theorem dX10_send_90 : decode cX10_send 90 = .ok (.iconst 1, 1) := by decide +kernel
theorem dX10_send_91 : decode cX10_send 91 = .ok (.iadd, 1) := by decide +kernel
theorem dX10_send_92 : decode cX10_send 92 = .ok (.iastore, 1) := by decide +kernel
theorem dX10_send_93 : decode cX10_send 93 = .ok (.bipush (-2), 2) := by decide +kernel
theorem dX10_send_95 : decode cX10_send 95 = .ok (.ireturn, 1) := by decide +kernel
theorem dX10_send_96 : decode cX10_send 96 = .ok (.aload_n 0, 1) := by decide +kernel
theorem dX10_send_97 : decode cX10_send 97 = .ok (.invokevirtual 295, 3) := by decide +kernel
theorem dX10_send_100 : decode cX10_send 100 = .ok (.aload_n 0, 1) := by decide +kernel
theorem dX10_send_101 : decode cX10_send 101 = .ok (.getfield 30, 3) := by decide +kernel
theorem dX10_send_104 : decode cX10_send 104 = .ok (.iload 4, 2) := by decide +kernel
theorem dX10_send_106 : decode cX10_send 106 = .ok (.iaload, 1) := by decide +kernel
theorem dX10_send_107 : decode cX10_send 107 = .ok (.iconst (-1), 1) := by decide +kernel
theorem dX10_send_108 : decode cX10_send 108 = .ok (.ixor, 1) := by decide +kernel
theorem dX10_send_109 : decode cX10_send 109 = .ok (.iand, 1) := by decide +kernel
theorem dX10_send_110 : decode cX10_send 110 = .ok (.ifCond .ne 15, 3) := by decide +kernel
theorem dX10_send_113 : decode cX10_send 113 = .ok (.iload 5, 2) := by decide +kernel
theorem dX10_send_115 : decode cX10_send 115 = .ok (.aload_n 0, 1) := by decide +kernel
theorem dX10_send_116 : decode cX10_send 116 = .ok (.getfield 27, 3) := by decide +kernel
theorem dX10_send_119 : decode cX10_send 119 = .ok (.iload 4, 2) := by decide +kernel
theorem dX10_send_121 : decode cX10_send 121 = .ok (.iaload, 1) := by decide +kernel
theorem dX10_send_122 : decode cX10_send 122 = .ok (.if_icmp .le 16, 3) := by decide +kernel
theorem dX10_send_125 : decode cX10_send 125 = .ok (.aload_n 0, 1) := by decide +kernel
theorem dX10_send_126 : decode cX10_send 126 = .ok (.getfield 105, 3) := by decide +kernel
theorem dX10_send_129 : decode cX10_send 129 = .ok (.iconst 3, 1) := by decide +kernel
theorem dX10_send_130 : decode cX10_send 130 = .ok (.dup2, 1) := by decide +kernel
theorem dX10_send_131 : decode cX10_send 131 = .ok (.iaload, 1) := by decide +kernel
theorem dX10_send_132 : decode cX10_send 132 = .ok (.iconst 1, 1) := by decide +kernel
theorem dX10_send_133 : decode cX10_send 133 = .ok (.iadd, 1) := by decide +kernel
theorem dX10_send_134 : decode cX10_send 134 = .ok (.iastore, 1) := by decide +kernel
theorem dX10_send_135 : decode cX10_send 135 = .ok (.bipush (-5), 2) := by decide +kernel
theorem dX10_send_137 : decode cX10_send 137 = .ok (.ireturn, 1) := by decide +kernel
theorem dX10_send_138 : decode cX10_send 138 = .ok (.aload_n 0, 1) := by decide +kernel
theorem dX10_send_139 : decode cX10_send 139 = .ok (.getfield 27, 3) := by decide +kernel
theorem dX10_send_142 : decode cX10_send 142 = .ok (.iload 4, 2) := by decide +kernel
theorem dX10_send_144 : decode cX10_send 144 = .ok (.dup2, 1) := by decide +kernel
theorem dX10_send_145 : decode cX10_send 145 = .ok (.iaload, 1) := by decide +kernel
theorem dX10_send_146 : decode cX10_send 146 = .ok (.iload 5, 2) := by decide +kernel
theorem dX10_send_148 : decode cX10_send 148 = .ok (.isub, 1) := by decide +kernel
theorem dX10_send_149 : decode cX10_send 149 = .ok (.iastore, 1) := by decide +kernel
theorem dX10_send_150 : decode cX10_send 150 = .ok (.aload_n 0, 1) := by decide +kernel
theorem dX10_send_151 : decode cX10_send 151 = .ok (.getfield 30, 3) := by decide +kernel
theorem dX10_send_154 : decode cX10_send 154 = .ok (.iload_n 2, 1) := by decide +kernel
theorem dX10_send_155 : decode cX10_send 155 = .ok (.bipush 10, 2) := by decide +kernel
theorem dX10_send_157 : decode cX10_send 157 = .ok (.irem, 1) := by decide +kernel
theorem dX10_send_158 : decode cX10_send 158 = .ok (.dup2, 1) := by decide +kernel
theorem dX10_send_159 : decode cX10_send 159 = .ok (.iaload, 1) := by decide +kernel
theorem dX10_send_160 : decode cX10_send 160 = .ok (.aload_n 0, 1) := by decide +kernel
theorem dX10_send_161 : decode cX10_send 161 = .ok (.invokevirtual 295, 3) := by decide +kernel
theorem dX10_send_164 : decode cX10_send 164 = .ok (.ior, 1) := by decide +kernel
theorem dX10_send_165 : decode cX10_send 165 = .ok (.iastore, 1) := by decide +kernel
theorem dX10_send_166 : decode cX10_send 166 = .ok (.aload_n 0, 1) := by decide +kernel
theorem dX10_send_167 : decode cX10_send 167 = .ok (.getfield 105, 3) := by decide +kernel
theorem dX10_send_170 : decode cX10_send 170 = .ok (.iconst 0, 1) := by decide +kernel
theorem dX10_send_171 : decode cX10_send 171 = .ok (.dup2, 1) := by decide +kernel
theorem dX10_send_172 : decode cX10_send 172 = .ok (.iaload, 1) := by decide +kernel
theorem dX10_send_173 : decode cX10_send 173 = .ok (.iconst 1, 1) := by decide +kernel
theorem dX10_send_174 : decode cX10_send 174 = .ok (.iadd, 1) := by decide +kernel
theorem dX10_send_175 : decode cX10_send 175 = .ok (.iastore, 1) := by decide +kernel
theorem dX10_send_176 : decode cX10_send 176 = .ok (.aload_n 0, 1) := by decide +kernel
theorem dX10_send_177 : decode cX10_send 177 = .ok (.getfield 105, 3) := by decide +kernel
theorem dX10_send_180 : decode cX10_send 180 = .ok (.iconst 1, 1) := by decide +kernel
theorem dX10_send_181 : decode cX10_send 181 = .ok (.dup2, 1) := by decide +kernel
theorem dX10_send_182 : decode cX10_send 182 = .ok (.iaload, 1) := by decide +kernel
theorem dX10_send_183 : decode cX10_send 183 = .ok (.aload_n 0, 1) := by decide +kernel
theorem dX10_send_184 : decode cX10_send 184 = .ok (.getfield 266, 3) := by decide +kernel
theorem dX10_send_187 : decode cX10_send 187 = .ok (.iadd, 1) := by decide +kernel
theorem dX10_send_188 : decode cX10_send 188 = .ok (.iastore, 1) := by decide +kernel
theorem dX10_send_189 : decode cX10_send 189 = .ok (.aload_n 0, 1) := by decide +kernel
theorem dX10_send_190 : decode cX10_send 190 = .ok (.getfield 105, 3) := by decide +kernel
theorem dX10_send_193 : decode cX10_send 193 = .ok (.iconst 2, 1) := by decide +kernel
theorem dX10_send_194 : decode cX10_send 194 = .ok (.dup2, 1) := by decide +kernel
theorem dX10_send_195 : decode cX10_send 195 = .ok (.iaload, 1) := by decide +kernel
theorem dX10_send_196 : decode cX10_send 196 = .ok (.iload 5, 2) := by decide +kernel
theorem dX10_send_198 : decode cX10_send 198 = .ok (.iadd, 1) := by decide +kernel
theorem dX10_send_199 : decode cX10_send 199 = .ok (.iastore, 1) := by decide +kernel
theorem dX10_send_200 : decode cX10_send 200 = .ok (.aload_n 0, 1) := by decide +kernel
theorem dX10_send_201 : decode cX10_send 201 = .ok (.getfield 105, 3) := by decide +kernel
theorem dX10_send_204 : decode cX10_send 204 = .ok (.iconst 4, 1) := by decide +kernel
theorem dX10_send_205 : decode cX10_send 205 = .ok (.dup2, 1) := by decide +kernel
theorem dX10_send_206 : decode cX10_send 206 = .ok (.iaload, 1) := by decide +kernel
theorem dX10_send_207 : decode cX10_send 207 = .ok (.aload_n 0, 1) := by decide +kernel
theorem dX10_send_208 : decode cX10_send 208 = .ok (.getfield 33, 3) := by decide +kernel
theorem dX10_send_211 : decode cX10_send 211 = .ok (.iconst 0, 1) := by decide +kernel
theorem dX10_send_212 : decode cX10_send 212 = .ok (.iaload, 1) := by decide +kernel
theorem dX10_send_213 : decode cX10_send 213 = .ok (.iadd, 1) := by decide +kernel
theorem dX10_send_214 : decode cX10_send 214 = .ok (.iastore, 1) := by decide +kernel
theorem dX10_send_215 : decode cX10_send 215 = .ok (.iload 5, 2) := by decide +kernel
theorem dX10_send_217 : decode cX10_send 217 = .ok (.ireturn, 1) := by decide +kernel
theorem dX10_night_0 : decode cX10_night 0 = .ok (.aload_n 0, 1) := by decide +kernel
theorem dX10_night_1 : decode cX10_night 1 = .ok (.getfield 33, 3) := by decide +kernel
theorem dX10_night_4 : decode cX10_night 4 = .ok (.iconst 0, 1) := by decide +kernel
theorem dX10_night_5 : decode cX10_night 5 = .ok (.iconst 1, 1) := by decide +kernel
theorem dX10_night_6 : decode cX10_night 6 = .ok (.aload_n 0, 1) := by decide +kernel
theorem dX10_night_7 : decode cX10_night 7 = .ok (.getfield 33, 3) := by decide +kernel
theorem dX10_night_10 : decode cX10_night 10 = .ok (.iconst 0, 1) := by decide +kernel
theorem dX10_night_11 : decode cX10_night 11 = .ok (.iaload, 1) := by decide +kernel
theorem dX10_night_12 : decode cX10_night 12 = .ok (.isub, 1) := by decide +kernel
theorem dX10_night_13 : decode cX10_night 13 = .ok (.iastore, 1) := by decide +kernel
theorem dX10_night_14 : decode cX10_night 14 = .ok (.aload_n 0, 1) := by decide +kernel
theorem dX10_night_15 : decode cX10_night 15 = .ok (.getfield 33, 3) := by decide +kernel
theorem dX10_night_18 : decode cX10_night 18 = .ok (.iconst 0, 1) := by decide +kernel
theorem dX10_night_19 : decode cX10_night 19 = .ok (.iaload, 1) := by decide +kernel
theorem dX10_night_20 : decode cX10_night 20 = .ok (.ireturn, 1) := by decide +kernel
theorem dX10_led_0 : decode cX10_led 0 = .ok (.iload_n 1, 1) := by decide +kernel
theorem dX10_led_1 : decode cX10_led 1 = .ok (.iconst 0, 1) := by decide +kernel
theorem dX10_led_2 : decode cX10_led 2 = .ok (.iconst 4, 1) := by decide +kernel
theorem dX10_led_3 : decode cX10_led 3 = .ok (.invokestatic 142, 3) := by decide +kernel
theorem dX10_led_6 : decode cX10_led 6 = .ok (.ifCond .eq 12, 3) := by decide +kernel
theorem dX10_led_9 : decode cX10_led 9 = .ok (.aload_n 0, 1) := by decide +kernel
theorem dX10_led_10 : decode cX10_led 10 = .ok (.getfield 105, 3) := by decide +kernel
theorem dX10_led_13 : decode cX10_led 13 = .ok (.iload_n 1, 1) := by decide +kernel
theorem dX10_led_14 : decode cX10_led 14 = .ok (.iaload, 1) := by decide +kernel
theorem dX10_led_15 : decode cX10_led 15 = .ok (.goto 4, 3) := by decide +kernel
theorem dX10_led_18 : decode cX10_led 18 = .ok (.iconst (-1), 1) := by decide +kernel
theorem dX10_led_19 : decode cX10_led 19 = .ok (.ireturn, 1) := by decide +kernel
theorem dX10_image_0 : decode cX10_image 0 = .ok (.aload_n 0, 1) := by decide +kernel
theorem dX10_image_1 : decode cX10_image 1 = .ok (.iconst 1, 1) := by decide +kernel
theorem dX10_image_2 : decode cX10_image 2 = .ok (.putfield 374, 3) := by decide +kernel
theorem dX10_image_5 : decode cX10_image 5 = .ok (.aload_n 0, 1) := by decide +kernel
theorem dX10_image_6 : decode cX10_image 6 = .ok (.aload_n 0, 1) := by decide +kernel
theorem dX10_image_7 : decode cX10_image 7 = .ok (.getfield 146, 3) := by decide +kernel
theorem dX10_image_10 : decode cX10_image 10 = .ok (.putfield 377, 3) := by decide +kernel
theorem dX10_image_13 : decode cX10_image 13 = .ok (.aload_n 0, 1) := by decide +kernel
theorem dX10_image_14 : decode cX10_image 14 = .ok (.aload_n 0, 1) := by decide +kernel
theorem dX10_image_15 : decode cX10_image 15 = .ok (.getfield 33, 3) := by decide +kernel
theorem dX10_image_18 : decode cX10_image 18 = .ok (.iconst 0, 1) := by decide +kernel
theorem dX10_image_19 : decode cX10_image 19 = .ok (.iaload, 1) := by decide +kernel
theorem dX10_image_20 : decode cX10_image 20 = .ok (.putfield 380, 3) := by decide +kernel
theorem dX10_image_23 : decode cX10_image 23 = .ok (.iconst 0, 1) := by decide +kernel
theorem dX10_image_24 : decode cX10_image 24 = .ok (.istore_n 1, 1) := by decide +kernel
theorem dX10_image_25 : decode cX10_image 25 = .ok (.iload_n 1, 1) := by decide +kernel
theorem dX10_image_26 : decode cX10_image 26 = .ok (.aload_n 0, 1) := by decide +kernel
theorem dX10_image_27 : decode cX10_image 27 = .ok (.getfield 146, 3) := by decide +kernel
theorem dX10_image_30 : decode cX10_image 30 = .ok (.if_icmp .ge 33, 3) := by decide +kernel
theorem dX10_image_33 : decode cX10_image 33 = .ok (.aload_n 0, 1) := by decide +kernel
theorem dX10_image_34 : decode cX10_image 34 = .ok (.getfield 108, 3) := by decide +kernel
theorem dX10_image_37 : decode cX10_image 37 = .ok (.iload_n 1, 1) := by decide +kernel
theorem dX10_image_38 : decode cX10_image 38 = .ok (.aload_n 0, 1) := by decide +kernel
theorem dX10_image_39 : decode cX10_image 39 = .ok (.getfield 27, 3) := by decide +kernel
theorem dX10_image_42 : decode cX10_image 42 = .ok (.iload_n 1, 1) := by decide +kernel
theorem dX10_image_43 : decode cX10_image 43 = .ok (.iaload, 1) := by decide +kernel
theorem dX10_image_44 : decode cX10_image 44 = .ok (.iastore, 1) := by decide +kernel
theorem dX10_image_45 : decode cX10_image 45 = .ok (.aload_n 0, 1) := by decide +kernel
theorem dX10_image_46 : decode cX10_image 46 = .ok (.getfield 111, 3) := by decide +kernel
theorem dX10_image_49 : decode cX10_image 49 = .ok (.iload_n 1, 1) := by decide +kernel
theorem dX10_image_50 : decode cX10_image 50 = .ok (.aload_n 0, 1) := by decide +kernel
theorem dX10_image_51 : decode cX10_image 51 = .ok (.getfield 30, 3) := by decide +kernel
theorem dX10_image_54 : decode cX10_image 54 = .ok (.iload_n 1, 1) := by decide +kernel
theorem dX10_image_55 : decode cX10_image 55 = .ok (.iaload, 1) := by decide +kernel
theorem dX10_image_56 : decode cX10_image 56 = .ok (.iastore, 1) := by decide +kernel
theorem dX10_image_57 : decode cX10_image 57 = .ok (.iinc 1 1, 3) := by decide +kernel
theorem dX10_image_60 : decode cX10_image 60 = .ok (.goto (-35), 3) := by decide +kernel
theorem dX10_image_63 : decode cX10_image 63 = .ok (.iconst 0, 1) := by decide +kernel
theorem dX10_image_64 : decode cX10_image 64 = .ok (.istore_n 1, 1) := by decide +kernel
theorem dX10_image_65 : decode cX10_image 65 = .ok (.iload_n 1, 1) := by decide +kernel
theorem dX10_image_66 : decode cX10_image 66 = .ok (.iconst 5, 1) := by decide +kernel
theorem dX10_image_67 : decode cX10_image 67 = .ok (.if_icmp .ge 21, 3) := by decide +kernel
theorem dX10_image_70 : decode cX10_image 70 = .ok (.aload_n 0, 1) := by decide +kernel
theorem dX10_image_71 : decode cX10_image 71 = .ok (.getfield 114, 3) := by decide +kernel
theorem dX10_image_74 : decode cX10_image 74 = .ok (.iload_n 1, 1) := by decide +kernel
theorem dX10_image_75 : decode cX10_image 75 = .ok (.aload_n 0, 1) := by decide +kernel
theorem dX10_image_76 : decode cX10_image 76 = .ok (.getfield 105, 3) := by decide +kernel
theorem dX10_image_79 : decode cX10_image 79 = .ok (.iload_n 1, 1) := by decide +kernel
theorem dX10_image_80 : decode cX10_image 80 = .ok (.iaload, 1) := by decide +kernel
theorem dX10_image_81 : decode cX10_image 81 = .ok (.iastore, 1) := by decide +kernel
theorem dX10_image_82 : decode cX10_image 82 = .ok (.iinc 1 1, 3) := by decide +kernel
theorem dX10_image_85 : decode cX10_image 85 = .ok (.goto (-20), 3) := by decide +kernel
theorem dX10_image_88 : decode cX10_image 88 = .ok (.aload_n 0, 1) := by decide +kernel
theorem dX10_image_89 : decode cX10_image 89 = .ok (.getfield 105, 3) := by decide +kernel
theorem dX10_image_92 : decode cX10_image 92 = .ok (.iconst 0, 1) := by decide +kernel
theorem dX10_image_93 : decode cX10_image 93 = .ok (.iaload, 1) := by decide +kernel
theorem dX10_image_94 : decode cX10_image 94 = .ok (.ireturn, 1) := by decide +kernel
theorem dX10_back_0 : decode cX10_back 0 = .ok (.aload_n 0, 1) := by decide +kernel
theorem dX10_back_1 : decode cX10_back 1 = .ok (.getfield 374, 3) := by decide +kernel
theorem dX10_back_4 : decode cX10_back 4 = .ok (.ifCond .ne 6, 3) := by decide +kernel
theorem dX10_back_7 : decode cX10_back 7 = .ok (.bipush (-5), 2) := by decide +kernel
theorem dX10_back_9 : decode cX10_back 9 = .ok (.ireturn, 1) := by decide +kernel
theorem dX10_back_10 : decode cX10_back 10 = .ok (.aload_n 0, 1) := by decide +kernel
theorem dX10_back_11 : decode cX10_back 11 = .ok (.getfield 33, 3) := by decide +kernel
theorem dX10_back_14 : decode cX10_back 14 = .ok (.iconst 0, 1) := by decide +kernel
theorem dX10_back_15 : decode cX10_back 15 = .ok (.aload_n 0, 1) := by decide +kernel
theorem dX10_back_16 : decode cX10_back 16 = .ok (.getfield 380, 3) := by decide +kernel
theorem dX10_back_19 : decode cX10_back 19 = .ok (.iastore, 1) := by decide +kernel
theorem dX10_back_20 : decode cX10_back 20 = .ok (.iconst 0, 1) := by decide +kernel
theorem dX10_back_21 : decode cX10_back 21 = .ok (.istore_n 1, 1) := by decide +kernel
theorem dX10_back_22 : decode cX10_back 22 = .ok (.iload_n 1, 1) := by decide +kernel
theorem dX10_back_23 : decode cX10_back 23 = .ok (.aload_n 0, 1) := by decide +kernel
theorem dX10_back_24 : decode cX10_back 24 = .ok (.getfield 377, 3) := by decide +kernel
theorem dX10_back_27 : decode cX10_back 27 = .ok (.if_icmp .ge 33, 3) := by decide +kernel
theorem dX10_back_30 : decode cX10_back 30 = .ok (.aload_n 0, 1) := by decide +kernel
theorem dX10_back_31 : decode cX10_back 31 = .ok (.getfield 27, 3) := by decide +kernel
theorem dX10_back_34 : decode cX10_back 34 = .ok (.iload_n 1, 1) := by decide +kernel
theorem dX10_back_35 : decode cX10_back 35 = .ok (.aload_n 0, 1) := by decide +kernel
theorem dX10_back_36 : decode cX10_back 36 = .ok (.getfield 108, 3) := by decide +kernel
theorem dX10_back_39 : decode cX10_back 39 = .ok (.iload_n 1, 1) := by decide +kernel
theorem dX10_back_40 : decode cX10_back 40 = .ok (.iaload, 1) := by decide +kernel
theorem dX10_back_41 : decode cX10_back 41 = .ok (.iastore, 1) := by decide +kernel
theorem dX10_back_42 : decode cX10_back 42 = .ok (.aload_n 0, 1) := by decide +kernel
theorem dX10_back_43 : decode cX10_back 43 = .ok (.getfield 30, 3) := by decide +kernel
theorem dX10_back_46 : decode cX10_back 46 = .ok (.iload_n 1, 1) := by decide +kernel
theorem dX10_back_47 : decode cX10_back 47 = .ok (.aload_n 0, 1) := by decide +kernel
theorem dX10_back_48 : decode cX10_back 48 = .ok (.getfield 111, 3) := by decide +kernel
theorem dX10_back_51 : decode cX10_back 51 = .ok (.iload_n 1, 1) := by decide +kernel
theorem dX10_back_52 : decode cX10_back 52 = .ok (.iaload, 1) := by decide +kernel
theorem dX10_back_53 : decode cX10_back 53 = .ok (.iastore, 1) := by decide +kernel
theorem dX10_back_54 : decode cX10_back 54 = .ok (.iinc 1 1, 3) := by decide +kernel
theorem dX10_back_57 : decode cX10_back 57 = .ok (.goto (-35), 3) := by decide +kernel
theorem dX10_back_60 : decode cX10_back 60 = .ok (.iconst 0, 1) := by decide +kernel
theorem dX10_back_61 : decode cX10_back 61 = .ok (.istore_n 1, 1) := by decide +kernel
theorem dX10_back_62 : decode cX10_back 62 = .ok (.iload_n 1, 1) := by decide +kernel
theorem dX10_back_63 : decode cX10_back 63 = .ok (.iconst 5, 1) := by decide +kernel
theorem dX10_back_64 : decode cX10_back 64 = .ok (.if_icmp .ge 21, 3) := by decide +kernel
theorem dX10_back_67 : decode cX10_back 67 = .ok (.aload_n 0, 1) := by decide +kernel
theorem dX10_back_68 : decode cX10_back 68 = .ok (.getfield 105, 3) := by decide +kernel
theorem dX10_back_71 : decode cX10_back 71 = .ok (.iload_n 1, 1) := by decide +kernel
theorem dX10_back_72 : decode cX10_back 72 = .ok (.aload_n 0, 1) := by decide +kernel
theorem dX10_back_73 : decode cX10_back 73 = .ok (.getfield 114, 3) := by decide +kernel
theorem dX10_back_76 : decode cX10_back 76 = .ok (.iload_n 1, 1) := by decide +kernel
theorem dX10_back_77 : decode cX10_back 77 = .ok (.iaload, 1) := by decide +kernel
theorem dX10_back_78 : decode cX10_back 78 = .ok (.iastore, 1) := by decide +kernel
theorem dX10_back_79 : decode cX10_back 79 = .ok (.iinc 1 1, 3) := by decide +kernel
theorem dX10_back_82 : decode cX10_back 82 = .ok (.goto (-20), 3) := by decide +kernel
theorem dX10_back_85 : decode cX10_back 85 = .ok (.aload_n 0, 1) := by decide +kernel
theorem dX10_back_86 : decode cX10_back 86 = .ok (.getfield 105, 3) := by decide +kernel
theorem dX10_back_89 : decode cX10_back 89 = .ok (.iconst 0, 1) := by decide +kernel
theorem dX10_back_90 : decode cX10_back 90 = .ok (.iaload, 1) := by decide +kernel
theorem dX10_back_91 : decode cX10_back 91 = .ok (.ireturn, 1) := by decide +kernel
theorem dX10_isBody_0 : decode cX10_isBody 0 = .ok (.iload_n 1, 1) := by decide +kernel
theorem dX10_isBody_1 : decode cX10_isBody 1 = .ok (.iconst 0, 1) := by decide +kernel
theorem dX10_isBody_2 : decode cX10_isBody 2 = .ok (.aload_n 0, 1) := by decide +kernel
theorem dX10_isBody_3 : decode cX10_isBody 3 = .ok (.getfield 383, 3) := by decide +kernel
theorem dX10_isBody_6 : decode cX10_isBody 6 = .ok (.iconst 1, 1) := by decide +kernel
theorem dX10_isBody_7 : decode cX10_isBody 7 = .ok (.isub, 1) := by decide +kernel
theorem dX10_isBody_8 : decode cX10_isBody 8 = .ok (.invokestatic 142, 3) := by decide +kernel
theorem dX10_isBody_11 : decode cX10_isBody 11 = .ok (.ireturn, 1) := by decide +kernel
theorem dX10_ran_0 : decode cX10_ran 0 = .ok (.aload_n 0, 1) := by decide +kernel
theorem dX10_ran_1 : decode cX10_ran 1 = .ok (.getfield 386, 3) := by decide +kernel
theorem dX10_ran_4 : decode cX10_ran 4 = .ok (.bipush 24, 2) := by decide +kernel
theorem dX10_ran_6 : decode cX10_ran 6 = .ok (.if_icmp .ge 13, 3) := by decide +kernel
theorem dX10_ran_9 : decode cX10_ran 9 = .ok (.aload_n 0, 1) := by decide +kernel
theorem dX10_ran_10 : decode cX10_ran 10 = .ok (.getfield 120, 3) := by decide +kernel
theorem dX10_ran_13 : decode cX10_ran 13 = .ok (.aload_n 0, 1) := by decide +kernel
theorem dX10_ran_14 : decode cX10_ran 14 = .ok (.getfield 386, 3) := by decide +kernel
theorem dX10_ran_17 : decode cX10_ran 17 = .ok (.iload_n 1, 1) := by decide +kernel
theorem dX10_ran_18 : decode cX10_ran 18 = .ok (.iastore, 1) := by decide +kernel
theorem dX10_ran_19 : decode cX10_ran 19 = .ok (.aload_n 0, 1) := by decide +kernel
theorem dX10_ran_20 : decode cX10_ran 20 = .ok (.dup, 1) := by decide +kernel
theorem dX10_ran_21 : decode cX10_ran 21 = .ok (.getfield 386, 3) := by decide +kernel
theorem dX10_ran_24 : decode cX10_ran 24 = .ok (.iconst 1, 1) := by decide +kernel
theorem dX10_ran_25 : decode cX10_ran 25 = .ok (.iadd, 1) := by decide +kernel
theorem dX10_ran_26 : decode cX10_ran 26 = .ok (.putfield 386, 3) := by decide +kernel
theorem dX10_ran_29 : decode cX10_ran 29 = .ok (.return_, 1) := by decide +kernel
theorem dX10_trace_0 : decode cX10_trace 0 = .ok (.iload_n 1, 1) := by decide +kernel
theorem dX10_trace_1 : decode cX10_trace 1 = .ok (.ifCond .lt 26, 3) := by decide +kernel
theorem dX10_trace_4 : decode cX10_trace 4 = .ok (.iload_n 1, 1) := by decide +kernel
theorem dX10_trace_5 : decode cX10_trace 5 = .ok (.aload_n 0, 1) := by decide +kernel
theorem dX10_trace_6 : decode cX10_trace 6 = .ok (.getfield 386, 3) := by decide +kernel
theorem dX10_trace_9 : decode cX10_trace 9 = .ok (.if_icmp .ge 18, 3) := by decide +kernel
theorem dX10_trace_12 : decode cX10_trace 12 = .ok (.iload_n 1, 1) := by decide +kernel
theorem dX10_trace_13 : decode cX10_trace 13 = .ok (.bipush 24, 2) := by decide +kernel
theorem dX10_trace_15 : decode cX10_trace 15 = .ok (.if_icmp .ge 12, 3) := by decide +kernel
theorem dX10_trace_18 : decode cX10_trace 18 = .ok (.aload_n 0, 1) := by decide +kernel
theorem dX10_trace_19 : decode cX10_trace 19 = .ok (.getfield 120, 3) := by decide +kernel
theorem dX10_trace_22 : decode cX10_trace 22 = .ok (.iload_n 1, 1) := by decide +kernel
theorem dX10_trace_23 : decode cX10_trace 23 = .ok (.iaload, 1) := by decide +kernel
theorem dX10_trace_24 : decode cX10_trace 24 = .ok (.goto 4, 3) := by decide +kernel
theorem dX10_trace_27 : decode cX10_trace 27 = .ok (.iconst (-1), 1) := by decide +kernel
theorem dX10_trace_28 : decode cX10_trace 28 = .ok (.ireturn, 1) := by decide +kernel
theorem dX10_body_0 : decode cX10_body 0 = .ok (.iload_n 1, 1) := by decide +kernel
theorem dX10_body_1 : decode cX10_body 1 = .ok (.iconst 0, 1) := by decide +kernel
theorem dX10_body_2 : decode cX10_body 2 = .ok (.bipush 7, 2) := by decide +kernel
theorem dX10_body_4 : decode cX10_body 4 = .ok (.invokestatic 142, 3) := by decide +kernel
theorem dX10_body_7 : decode cX10_body 7 = .ok (.ifCond .ne 5, 3) := by decide +kernel
theorem dX10_body_10 : decode cX10_body 10 = .ok (.iconst (-1), 1) := by decide +kernel
theorem dX10_body_11 : decode cX10_body 11 = .ok (.ireturn, 1) := by decide +kernel
theorem dX10_body_12 : decode cX10_body 12 = .ok (.aload_n 0, 1) := by decide +kernel
theorem dX10_body_13 : decode cX10_body 13 = .ok (.getfield 383, 3) := by decide +kernel
theorem dX10_body_16 : decode cX10_body 16 = .ok (.bipush 50, 2) := by decide +kernel
theorem dX10_body_18 : decode cX10_body 18 = .ok (.if_icmp .ne 6, 3) := by decide +kernel
theorem dX10_body_21 : decode cX10_body 21 = .ok (.bipush (-3), 2) := by decide +kernel
theorem dX10_body_23 : decode cX10_body 23 = .ok (.ireturn, 1) := by decide +kernel
theorem dX10_body_24 : decode cX10_body 24 = .ok (.aload_n 0, 1) := by decide +kernel
theorem dX10_body_25 : decode cX10_body 25 = .ok (.getfield 117, 3) := by decide +kernel
theorem dX10_body_28 : decode cX10_body 28 = .ok (.aload_n 0, 1) := by decide +kernel
theorem dX10_body_29 : decode cX10_body 29 = .ok (.getfield 383, 3) := by decide +kernel
theorem dX10_body_32 : decode cX10_body 32 = .ok (.iload_n 1, 1) := by decide +kernel
theorem dX10_body_33 : decode cX10_body 33 = .ok (.iastore, 1) := by decide +kernel
theorem dX10_body_34 : decode cX10_body 34 = .ok (.aload_n 0, 1) := by decide +kernel
theorem dX10_body_35 : decode cX10_body 35 = .ok (.dup, 1) := by decide +kernel
theorem dX10_body_36 : decode cX10_body 36 = .ok (.getfield 383, 3) := by decide +kernel
theorem dX10_body_39 : decode cX10_body 39 = .ok (.iconst 1, 1) := by decide +kernel
theorem dX10_body_40 : decode cX10_body 40 = .ok (.iadd, 1) := by decide +kernel
theorem dX10_body_41 : decode cX10_body 41 = .ok (.putfield 383, 3) := by decide +kernel
theorem dX10_body_44 : decode cX10_body 44 = .ok (.aload_n 0, 1) := by decide +kernel
theorem dX10_body_45 : decode cX10_body 45 = .ok (.getfield 383, 3) := by decide +kernel
theorem dX10_body_48 : decode cX10_body 48 = .ok (.iconst 1, 1) := by decide +kernel
theorem dX10_body_49 : decode cX10_body 49 = .ok (.isub, 1) := by decide +kernel
theorem dX10_body_50 : decode cX10_body 50 = .ok (.ireturn, 1) := by decide +kernel
theorem dX10_isUnder_0 : decode cX10_isUnder 0 = .ok (.iload_n 1, 1) := by decide +kernel
theorem dX10_isUnder_1 : decode cX10_isUnder 1 = .ok (.ifCond .eq 55, 3) := by decide +kernel
theorem dX10_isUnder_4 : decode cX10_isUnder 4 = .ok (.iload_n 0, 1) := by decide +kernel
theorem dX10_isUnder_5 : decode cX10_isUnder 5 = .ok (.iload_n 1, 1) := by decide +kernel
theorem dX10_isUnder_6 : decode cX10_isUnder 6 = .ok (.if_icmp .eq 50, 3) := by decide +kernel
theorem dX10_isUnder_9 : decode cX10_isUnder 9 = .ok (.iload_n 1, 1) := by decide +kernel
theorem dX10_isUnder_10 : decode cX10_isUnder 10 = .ok (.iconst 1, 1) := by decide +kernel
theorem dX10_isUnder_11 : decode cX10_isUnder 11 = .ok (.if_icmp .ne 8, 3) := by decide +kernel
theorem dX10_isUnder_14 : decode cX10_isUnder 14 = .ok (.iload_n 0, 1) := by decide +kernel
theorem dX10_isUnder_15 : decode cX10_isUnder 15 = .ok (.iconst 4, 1) := by decide +kernel
theorem dX10_isUnder_16 : decode cX10_isUnder 16 = .ok (.if_icmp .eq 40, 3) := by decide +kernel
theorem dX10_isUnder_19 : decode cX10_isUnder 19 = .ok (.iload_n 1, 1) := by decide +kernel
theorem dX10_isUnder_20 : decode cX10_isUnder 20 = .ok (.iconst 2, 1) := by decide +kernel
theorem dX10_isUnder_21 : decode cX10_isUnder 21 = .ok (.if_icmp .ne 13, 3) := by decide +kernel
theorem dX10_isUnder_24 : decode cX10_isUnder 24 = .ok (.iload_n 0, 1) := by decide +kernel
theorem dX10_isUnder_25 : decode cX10_isUnder 25 = .ok (.iconst 3, 1) := by decide +kernel
theorem dX10_isUnder_26 : decode cX10_isUnder 26 = .ok (.if_icmp .eq 30, 3) := by decide +kernel
theorem dX10_isUnder_29 : decode cX10_isUnder 29 = .ok (.iload_n 0, 1) := by decide +kernel
theorem dX10_isUnder_30 : decode cX10_isUnder 30 = .ok (.iconst 5, 1) := by decide +kernel
theorem dX10_isUnder_31 : decode cX10_isUnder 31 = .ok (.if_icmp .eq 25, 3) := by decide +kernel
theorem dX10_isUnder_34 : decode cX10_isUnder 34 = .ok (.iload_n 1, 1) := by decide +kernel
theorem dX10_isUnder_35 : decode cX10_isUnder 35 = .ok (.iconst 3, 1) := by decide +kernel
theorem dX10_isUnder_36 : decode cX10_isUnder 36 = .ok (.if_icmp .ne 8, 3) := by decide +kernel
theorem dX10_isUnder_39 : decode cX10_isUnder 39 = .ok (.iload_n 0, 1) := by decide +kernel
theorem dX10_isUnder_40 : decode cX10_isUnder 40 = .ok (.iconst 5, 1) := by decide +kernel
theorem dX10_isUnder_41 : decode cX10_isUnder 41 = .ok (.if_icmp .eq 15, 3) := by decide +kernel
theorem dX10_isUnder_44 : decode cX10_isUnder 44 = .ok (.iload_n 1, 1) := by decide +kernel
theorem dX10_isUnder_45 : decode cX10_isUnder 45 = .ok (.bipush 6, 2) := by decide +kernel
theorem dX10_isUnder_47 : decode cX10_isUnder 47 = .ok (.if_icmp .ne 13, 3) := by decide +kernel
theorem dX10_isUnder_50 : decode cX10_isUnder 50 = .ok (.iload_n 0, 1) := by decide +kernel
theorem dX10_isUnder_51 : decode cX10_isUnder 51 = .ok (.bipush 7, 2) := by decide +kernel
theorem dX10_isUnder_53 : decode cX10_isUnder 53 = .ok (.if_icmp .ne 7, 3) := by decide +kernel
theorem dX10_isUnder_56 : decode cX10_isUnder 56 = .ok (.iconst 1, 1) := by decide +kernel
theorem dX10_isUnder_57 : decode cX10_isUnder 57 = .ok (.goto 4, 3) := by decide +kernel
theorem dX10_isUnder_60 : decode cX10_isUnder 60 = .ok (.iconst 0, 1) := by decide +kernel
theorem dX10_isUnder_61 : decode cX10_isUnder 61 = .ok (.ireturn, 1) := by decide +kernel
theorem dX10_plainSays_0 : decode cX10_plainSays 0 = .ok (.aload_n 0, 1) := by decide +kernel
theorem dX10_plainSays_1 : decode cX10_plainSays 1 = .ok (.iconst 1, 1) := by decide +kernel
theorem dX10_plainSays_2 : decode cX10_plainSays 2 = .ok (.invokevirtual 389, 3) := by decide +kernel
theorem dX10_plainSays_5 : decode cX10_plainSays 5 = .ok (.iload_n 2, 1) := by decide +kernel
theorem dX10_plainSays_6 : decode cX10_plainSays 6 = .ok (.iload_n 1, 1) := by decide +kernel
theorem dX10_plainSays_7 : decode cX10_plainSays 7 = .ok (.iadd, 1) := by decide +kernel
theorem dX10_plainSays_8 : decode cX10_plainSays 8 = .ok (.ireturn, 1) := by decide +kernel
theorem dX10_cowSays_0 : decode cX10_cowSays 0 = .ok (.aload_n 0, 1) := by decide +kernel
theorem dX10_cowSays_1 : decode cX10_cowSays 1 = .ok (.bipush 70, 2) := by decide +kernel
theorem dX10_cowSays_3 : decode cX10_cowSays 3 = .ok (.invokevirtual 389, 3) := by decide +kernel
theorem dX10_cowSays_6 : decode cX10_cowSays 6 = .ok (.aload_n 0, 1) := by decide +kernel
theorem dX10_cowSays_7 : decode cX10_cowSays 7 = .ok (.iload_n 1, 1) := by decide +kernel
theorem dX10_cowSays_8 : decode cX10_cowSays 8 = .ok (.iload_n 2, 1) := by decide +kernel
theorem dX10_cowSays_9 : decode cX10_cowSays 9 = .ok (.invokevirtual 392, 3) := by decide +kernel
theorem dX10_cowSays_12 : decode cX10_cowSays 12 = .ok (.iconst 2, 1) := by decide +kernel
theorem dX10_cowSays_13 : decode cX10_cowSays 13 = .ok (.imul, 1) := by decide +kernel
theorem dX10_cowSays_14 : decode cX10_cowSays 14 = .ok (.ireturn, 1) := by decide +kernel
theorem dX10_saying_0 : decode cX10_saying 0 = .ok (.aload_n 0, 1) := by decide +kernel
theorem dX10_saying_1 : decode cX10_saying 1 = .ok (.getfield 117, 3) := by decide +kernel
theorem dX10_saying_4 : decode cX10_saying 4 = .ok (.iload_n 1, 1) := by decide +kernel
theorem dX10_saying_5 : decode cX10_saying 5 = .ok (.iaload, 1) := by decide +kernel
theorem dX10_saying_6 : decode cX10_saying 6 = .ok (.iconst 1, 1) := by decide +kernel
theorem dX10_saying_7 : decode cX10_saying 7 = .ok (.invokestatic 395, 3) := by decide +kernel
theorem dX10_saying_10 : decode cX10_saying 10 = .ok (.ifCond .eq 18, 3) := by decide +kernel
theorem dX10_saying_13 : decode cX10_saying 13 = .ok (.aload_n 0, 1) := by decide +kernel
theorem dX10_saying_14 : decode cX10_saying 14 = .ok (.bipush 20, 2) := by decide +kernel
theorem dX10_saying_16 : decode cX10_saying 16 = .ok (.invokevirtual 389, 3) := by decide +kernel
theorem dX10_saying_19 : decode cX10_saying 19 = .ok (.aload_n 0, 1) := by decide +kernel
theorem dX10_saying_20 : decode cX10_saying 20 = .ok (.iload_n 1, 1) := by decide +kernel
theorem dX10_saying_21 : decode cX10_saying 21 = .ok (.iload_n 2, 1) := by decide +kernel
theorem dX10_saying_22 : decode cX10_saying 22 = .ok (.invokevirtual 392, 3) := by decide +kernel
theorem dX10_saying_25 : decode cX10_saying 25 = .ok (.iconst 3, 1) := by decide +kernel
theorem dX10_saying_26 : decode cX10_saying 26 = .ok (.iadd, 1) := by decide +kernel
theorem dX10_saying_27 : decode cX10_saying 27 = .ok (.ireturn, 1) := by decide +kernel
theorem dX10_saying_28 : decode cX10_saying 28 = .ok (.aload_n 0, 1) := by decide +kernel
theorem dX10_saying_29 : decode cX10_saying 29 = .ok (.getfield 117, 3) := by decide +kernel
theorem dX10_saying_32 : decode cX10_saying 32 = .ok (.iload_n 1, 1) := by decide +kernel
theorem dX10_saying_33 : decode cX10_saying 33 = .ok (.iaload, 1) := by decide +kernel
theorem dX10_saying_34 : decode cX10_saying 34 = .ok (.bipush 7, 2) := by decide +kernel
theorem dX10_saying_36 : decode cX10_saying 36 = .ok (.if_icmp .ne 18, 3) := by decide +kernel
theorem dX10_saying_39 : decode cX10_saying 39 = .ok (.aload_n 0, 1) := by decide +kernel
theorem dX10_saying_40 : decode cX10_saying 40 = .ok (.bipush 81, 2) := by decide +kernel
theorem dX10_saying_42 : decode cX10_saying 42 = .ok (.invokevirtual 389, 3) := by decide +kernel
theorem dX10_saying_45 : decode cX10_saying 45 = .ok (.aload_n 0, 1) := by decide +kernel
theorem dX10_saying_46 : decode cX10_saying 46 = .ok (.iload_n 1, 1) := by decide +kernel
theorem dX10_saying_47 : decode cX10_saying 47 = .ok (.iload_n 2, 1) := by decide +kernel
theorem dX10_saying_48 : decode cX10_saying 48 = .ok (.invokevirtual 398, 3) := by decide +kernel
theorem dX10_saying_51 : decode cX10_saying 51 = .ok (.iconst 1, 1) := by decide +kernel
theorem dX10_saying_52 : decode cX10_saying 52 = .ok (.isub, 1) := by decide +kernel
theorem dX10_saying_53 : decode cX10_saying 53 = .ok (.ireturn, 1) := by decide +kernel
theorem dX10_saying_54 : decode cX10_saying 54 = .ok (.aload_n 0, 1) := by decide +kernel
theorem dX10_saying_55 : decode cX10_saying 55 = .ok (.getfield 117, 3) := by decide +kernel
theorem dX10_saying_58 : decode cX10_saying 58 = .ok (.iload_n 1, 1) := by decide +kernel
theorem dX10_saying_59 : decode cX10_saying 59 = .ok (.iaload, 1) := by decide +kernel
theorem dX10_saying_60 : decode cX10_saying 60 = .ok (.bipush 6, 2) := by decide +kernel
theorem dX10_saying_62 : decode cX10_saying 62 = .ok (.if_icmp .ne 12, 3) := by decide +kernel
theorem dX10_saying_65 : decode cX10_saying 65 = .ok (.aload_n 0, 1) := by decide +kernel
theorem dX10_saying_66 : decode cX10_saying 66 = .ok (.iload_n 1, 1) := by decide +kernel
theorem dX10_saying_67 : decode cX10_saying 67 = .ok (.iload_n 2, 1) := by decide +kernel
theorem dX10_saying_68 : decode cX10_saying 68 = .ok (.invokevirtual 398, 3) := by decide +kernel
theorem dX10_saying_71 : decode cX10_saying 71 = .ok (.goto 9, 3) := by decide +kernel
theorem dX10_saying_74 : decode cX10_saying 74 = .ok (.aload_n 0, 1) := by decide +kernel
theorem dX10_saying_75 : decode cX10_saying 75 = .ok (.iload_n 1, 1) := by decide +kernel
theorem dX10_saying_76 : decode cX10_saying 76 = .ok (.iload_n 2, 1) := by decide +kernel
theorem dX10_saying_77 : decode cX10_saying 77 = .ok (.invokevirtual 392, 3) := by decide +kernel
theorem dX10_saying_80 : decode cX10_saying 80 = .ok (.ireturn, 1) := by decide +kernel
theorem dX10_plainCosts_0 : decode cX10_plainCosts 0 = .ok (.aload_n 0, 1) := by decide +kernel
theorem dX10_plainCosts_1 : decode cX10_plainCosts 1 = .ok (.bipush 10, 2) := by decide +kernel
theorem dX10_plainCosts_3 : decode cX10_plainCosts 3 = .ok (.invokevirtual 389, 3) := by decide +kernel
theorem dX10_plainCosts_6 : decode cX10_plainCosts 6 = .ok (.aload_n 0, 1) := by decide +kernel
theorem dX10_plainCosts_7 : decode cX10_plainCosts 7 = .ok (.iload_n 1, 1) := by decide +kernel
theorem dX10_plainCosts_8 : decode cX10_plainCosts 8 = .ok (.iload_n 2, 1) := by decide +kernel
theorem dX10_plainCosts_9 : decode cX10_plainCosts 9 = .ok (.invokevirtual 401, 3) := by decide +kernel
theorem dX10_plainCosts_12 : decode cX10_plainCosts 12 = .ok (.iconst 2, 1) := by decide +kernel
theorem dX10_plainCosts_13 : decode cX10_plainCosts 13 = .ok (.imul, 1) := by decide +kernel
theorem dX10_plainCosts_14 : decode cX10_plainCosts 14 = .ok (.ireturn, 1) := by decide +kernel
theorem dX10_clerkCosts_0 : decode cX10_clerkCosts 0 = .ok (.aload_n 0, 1) := by decide +kernel
theorem dX10_clerkCosts_1 : decode cX10_clerkCosts 1 = .ok (.bipush 30, 2) := by decide +kernel
theorem dX10_clerkCosts_3 : decode cX10_clerkCosts 3 = .ok (.invokevirtual 389, 3) := by decide +kernel
theorem dX10_clerkCosts_6 : decode cX10_clerkCosts 6 = .ok (.aload_n 0, 1) := by decide +kernel
theorem dX10_clerkCosts_7 : decode cX10_clerkCosts 7 = .ok (.iload_n 1, 1) := by decide +kernel
theorem dX10_clerkCosts_8 : decode cX10_clerkCosts 8 = .ok (.iload_n 2, 1) := by decide +kernel
theorem dX10_clerkCosts_9 : decode cX10_clerkCosts 9 = .ok (.invokevirtual 404, 3) := by decide +kernel
theorem dX10_clerkCosts_12 : decode cX10_clerkCosts 12 = .ok (.ineg, 1) := by decide +kernel
theorem dX10_clerkCosts_13 : decode cX10_clerkCosts 13 = .ok (.ireturn, 1) := by decide +kernel
theorem dX10_costing_0 : decode cX10_costing 0 = .ok (.aload_n 0, 1) := by decide +kernel
theorem dX10_costing_1 : decode cX10_costing 1 = .ok (.getfield 117, 3) := by decide +kernel
theorem dX10_costing_4 : decode cX10_costing 4 = .ok (.iload_n 1, 1) := by decide +kernel
theorem dX10_costing_5 : decode cX10_costing 5 = .ok (.iaload, 1) := by decide +kernel
theorem dX10_costing_6 : decode cX10_costing 6 = .ok (.iconst 3, 1) := by decide +kernel
theorem dX10_costing_7 : decode cX10_costing 7 = .ok (.invokestatic 395, 3) := by decide +kernel
theorem dX10_costing_10 : decode cX10_costing 10 = .ok (.ifCond .eq 18, 3) := by decide +kernel
theorem dX10_costing_13 : decode cX10_costing 13 = .ok (.aload_n 0, 1) := by decide +kernel
theorem dX10_costing_14 : decode cX10_costing 14 = .ok (.bipush 41, 2) := by decide +kernel
theorem dX10_costing_16 : decode cX10_costing 16 = .ok (.invokevirtual 389, 3) := by decide +kernel
theorem dX10_costing_19 : decode cX10_costing 19 = .ok (.aload_n 0, 1) := by decide +kernel
theorem dX10_costing_20 : decode cX10_costing 20 = .ok (.iload_n 1, 1) := by decide +kernel
theorem dX10_costing_21 : decode cX10_costing 21 = .ok (.iload_n 2, 1) := by decide +kernel
theorem dX10_costing_22 : decode cX10_costing 22 = .ok (.iconst 1, 1) := by decide +kernel
theorem dX10_costing_23 : decode cX10_costing 23 = .ok (.iadd, 1) := by decide +kernel
theorem dX10_costing_24 : decode cX10_costing 24 = .ok (.invokevirtual 407, 3) := by decide +kernel
theorem dX10_costing_27 : decode cX10_costing 27 = .ok (.ireturn, 1) := by decide +kernel
theorem dX10_costing_28 : decode cX10_costing 28 = .ok (.aload_n 0, 1) := by decide +kernel
theorem dX10_costing_29 : decode cX10_costing 29 = .ok (.getfield 117, 3) := by decide +kernel
theorem dX10_costing_32 : decode cX10_costing 32 = .ok (.iload_n 1, 1) := by decide +kernel
theorem dX10_costing_33 : decode cX10_costing 33 = .ok (.iaload, 1) := by decide +kernel
theorem dX10_costing_34 : decode cX10_costing 34 = .ok (.bipush 7, 2) := by decide +kernel
theorem dX10_costing_36 : decode cX10_costing 36 = .ok (.if_icmp .ne 25, 3) := by decide +kernel
theorem dX10_costing_39 : decode cX10_costing 39 = .ok (.aload_n 0, 1) := by decide +kernel
theorem dX10_costing_40 : decode cX10_costing 40 = .ok (.bipush 80, 2) := by decide +kernel
theorem dX10_costing_42 : decode cX10_costing 42 = .ok (.invokevirtual 389, 3) := by decide +kernel
theorem dX10_costing_45 : decode cX10_costing 45 = .ok (.aload_n 0, 1) := by decide +kernel
theorem dX10_costing_46 : decode cX10_costing 46 = .ok (.iload_n 1, 1) := by decide +kernel
theorem dX10_costing_47 : decode cX10_costing 47 = .ok (.iload_n 2, 1) := by decide +kernel
theorem dX10_costing_48 : decode cX10_costing 48 = .ok (.invokevirtual 404, 3) := by decide +kernel
theorem dX10_costing_51 : decode cX10_costing 51 = .ok (.istore_n 3, 1) := by decide +kernel
theorem dX10_costing_52 : decode cX10_costing 52 = .ok (.iload_n 3, 1) := by decide +kernel
theorem dX10_costing_53 : decode cX10_costing 53 = .ok (.aload_n 0, 1) := by decide +kernel
theorem dX10_costing_54 : decode cX10_costing 54 = .ok (.iload_n 1, 1) := by decide +kernel
theorem dX10_costing_55 : decode cX10_costing 55 = .ok (.iconst 2, 1) := by decide +kernel
theorem dX10_costing_56 : decode cX10_costing 56 = .ok (.invokevirtual 410, 3) := by decide +kernel
theorem dX10_costing_59 : decode cX10_costing 59 = .ok (.iadd, 1) := by decide +kernel
theorem dX10_costing_60 : decode cX10_costing 60 = .ok (.ireturn, 1) := by decide +kernel
theorem dX10_costing_61 : decode cX10_costing 61 = .ok (.aload_n 0, 1) := by decide +kernel
theorem dX10_costing_62 : decode cX10_costing 62 = .ok (.getfield 117, 3) := by decide +kernel
theorem dX10_costing_65 : decode cX10_costing 65 = .ok (.iload_n 1, 1) := by decide +kernel
theorem dX10_costing_66 : decode cX10_costing 66 = .ok (.iaload, 1) := by decide +kernel
theorem dX10_costing_67 : decode cX10_costing 67 = .ok (.iconst 2, 1) := by decide +kernel
theorem dX10_costing_68 : decode cX10_costing 68 = .ok (.if_icmp .ne 12, 3) := by decide +kernel
theorem dX10_costing_71 : decode cX10_costing 71 = .ok (.aload_n 0, 1) := by decide +kernel
theorem dX10_costing_72 : decode cX10_costing 72 = .ok (.iload_n 1, 1) := by decide +kernel
theorem dX10_costing_73 : decode cX10_costing 73 = .ok (.iload_n 2, 1) := by decide +kernel
theorem dX10_costing_74 : decode cX10_costing 74 = .ok (.invokevirtual 407, 3) := by decide +kernel
theorem dX10_costing_77 : decode cX10_costing 77 = .ok (.goto 9, 3) := by decide +kernel
theorem dX10_costing_80 : decode cX10_costing 80 = .ok (.aload_n 0, 1) := by decide +kernel
theorem dX10_costing_81 : decode cX10_costing 81 = .ok (.iload_n 1, 1) := by decide +kernel
theorem dX10_costing_82 : decode cX10_costing 82 = .ok (.iload_n 2, 1) := by decide +kernel
theorem dX10_costing_83 : decode cX10_costing 83 = .ok (.invokevirtual 404, 3) := by decide +kernel
theorem dX10_costing_86 : decode cX10_costing 86 = .ok (.ireturn, 1) := by decide +kernel
theorem dX10_plainErrs_0 : decode cX10_plainErrs 0 = .ok (.aload_n 0, 1) := by decide +kernel
theorem dX10_plainErrs_1 : decode cX10_plainErrs 1 = .ok (.bipush 11, 2) := by decide +kernel
theorem dX10_plainErrs_3 : decode cX10_plainErrs 3 = .ok (.invokevirtual 389, 3) := by decide +kernel
theorem dX10_plainErrs_6 : decode cX10_plainErrs 6 = .ok (.iload_n 2, 1) := by decide +kernel
theorem dX10_plainErrs_7 : decode cX10_plainErrs 7 = .ok (.iload_n 1, 1) := by decide +kernel
theorem dX10_plainErrs_8 : decode cX10_plainErrs 8 = .ok (.ixor, 1) := by decide +kernel
theorem dX10_plainErrs_9 : decode cX10_plainErrs 9 = .ok (.ireturn, 1) := by decide +kernel
theorem dX10_stopErrs_0 : decode cX10_stopErrs 0 = .ok (.aload_n 0, 1) := by decide +kernel
theorem dX10_stopErrs_1 : decode cX10_stopErrs 1 = .ok (.bipush 40, 2) := by decide +kernel
theorem dX10_stopErrs_3 : decode cX10_stopErrs 3 = .ok (.invokevirtual 389, 3) := by decide +kernel
theorem dX10_stopErrs_6 : decode cX10_stopErrs 6 = .ok (.aload_n 0, 1) := by decide +kernel
theorem dX10_stopErrs_7 : decode cX10_stopErrs 7 = .ok (.iload_n 1, 1) := by decide +kernel
theorem dX10_stopErrs_8 : decode cX10_stopErrs 8 = .ok (.iload_n 2, 1) := by decide +kernel
theorem dX10_stopErrs_9 : decode cX10_stopErrs 9 = .ok (.invokevirtual 413, 3) := by decide +kernel
theorem dX10_stopErrs_12 : decode cX10_stopErrs 12 = .ok (.iconst 3, 1) := by decide +kernel
theorem dX10_stopErrs_13 : decode cX10_stopErrs 13 = .ok (.imul, 1) := by decide +kernel
theorem dX10_stopErrs_14 : decode cX10_stopErrs 14 = .ok (.ireturn, 1) := by decide +kernel
theorem dX10_erring_0 : decode cX10_erring 0 = .ok (.aload_n 0, 1) := by decide +kernel
theorem dX10_erring_1 : decode cX10_erring 1 = .ok (.getfield 117, 3) := by decide +kernel
theorem dX10_erring_4 : decode cX10_erring 4 = .ok (.iload_n 1, 1) := by decide +kernel
theorem dX10_erring_5 : decode cX10_erring 5 = .ok (.iaload, 1) := by decide +kernel
theorem dX10_erring_6 : decode cX10_erring 6 = .ok (.iconst 5, 1) := by decide +kernel
theorem dX10_erring_7 : decode cX10_erring 7 = .ok (.if_icmp .ne 25, 3) := by decide +kernel
theorem dX10_erring_10 : decode cX10_erring 10 = .ok (.aload_n 0, 1) := by decide +kernel
theorem dX10_erring_11 : decode cX10_erring 11 = .ok (.bipush 60, 2) := by decide +kernel
theorem dX10_erring_13 : decode cX10_erring 13 = .ok (.invokevirtual 389, 3) := by decide +kernel
theorem dX10_erring_16 : decode cX10_erring 16 = .ok (.aload_n 0, 1) := by decide +kernel
theorem dX10_erring_17 : decode cX10_erring 17 = .ok (.iload_n 1, 1) := by decide +kernel
theorem dX10_erring_18 : decode cX10_erring 18 = .ok (.iload_n 2, 1) := by decide +kernel
theorem dX10_erring_19 : decode cX10_erring 19 = .ok (.invokevirtual 416, 3) := by decide +kernel
theorem dX10_erring_22 : decode cX10_erring 22 = .ok (.istore_n 3, 1) := by decide +kernel
theorem dX10_erring_23 : decode cX10_erring 23 = .ok (.iload_n 3, 1) := by decide +kernel
theorem dX10_erring_24 : decode cX10_erring 24 = .ok (.aload_n 0, 1) := by decide +kernel
theorem dX10_erring_25 : decode cX10_erring 25 = .ok (.iload_n 1, 1) := by decide +kernel
theorem dX10_erring_26 : decode cX10_erring 26 = .ok (.iconst 2, 1) := by decide +kernel
theorem dX10_erring_27 : decode cX10_erring 27 = .ok (.invokevirtual 401, 3) := by decide +kernel
theorem dX10_erring_30 : decode cX10_erring 30 = .ok (.isub, 1) := by decide +kernel
theorem dX10_erring_31 : decode cX10_erring 31 = .ok (.ireturn, 1) := by decide +kernel
theorem dX10_erring_32 : decode cX10_erring 32 = .ok (.aload_n 0, 1) := by decide +kernel
theorem dX10_erring_33 : decode cX10_erring 33 = .ok (.getfield 117, 3) := by decide +kernel
theorem dX10_erring_36 : decode cX10_erring 36 = .ok (.iload_n 1, 1) := by decide +kernel
theorem dX10_erring_37 : decode cX10_erring 37 = .ok (.iaload, 1) := by decide +kernel
theorem dX10_erring_38 : decode cX10_erring 38 = .ok (.iconst 3, 1) := by decide +kernel
theorem dX10_erring_39 : decode cX10_erring 39 = .ok (.if_icmp .ne 12, 3) := by decide +kernel
theorem dX10_erring_42 : decode cX10_erring 42 = .ok (.aload_n 0, 1) := by decide +kernel
theorem dX10_erring_43 : decode cX10_erring 43 = .ok (.iload_n 1, 1) := by decide +kernel
theorem dX10_erring_44 : decode cX10_erring 44 = .ok (.iload_n 2, 1) := by decide +kernel
theorem dX10_erring_45 : decode cX10_erring 45 = .ok (.invokevirtual 416, 3) := by decide +kernel
theorem dX10_erring_48 : decode cX10_erring 48 = .ok (.goto 9, 3) := by decide +kernel
theorem dX10_erring_51 : decode cX10_erring 51 = .ok (.aload_n 0, 1) := by decide +kernel
theorem dX10_erring_52 : decode cX10_erring 52 = .ok (.iload_n 1, 1) := by decide +kernel
theorem dX10_erring_53 : decode cX10_erring 53 = .ok (.iload_n 2, 1) := by decide +kernel
theorem dX10_erring_54 : decode cX10_erring 54 = .ok (.invokevirtual 413, 3) := by decide +kernel
theorem dX10_erring_57 : decode cX10_erring 57 = .ok (.ireturn, 1) := by decide +kernel
theorem dX10_plainTells_0 : decode cX10_plainTells 0 = .ok (.aload_n 0, 1) := by decide +kernel
theorem dX10_plainTells_1 : decode cX10_plainTells 1 = .ok (.iconst 2, 1) := by decide +kernel
theorem dX10_plainTells_2 : decode cX10_plainTells 2 = .ok (.invokevirtual 389, 3) := by decide +kernel
theorem dX10_plainTells_5 : decode cX10_plainTells 5 = .ok (.aload_n 0, 1) := by decide +kernel
theorem dX10_plainTells_6 : decode cX10_plainTells 6 = .ok (.iload_n 1, 1) := by decide +kernel
theorem dX10_plainTells_7 : decode cX10_plainTells 7 = .ok (.iload_n 2, 1) := by decide +kernel
theorem dX10_plainTells_8 : decode cX10_plainTells 8 = .ok (.invokevirtual 419, 3) := by decide +kernel
theorem dX10_plainTells_11 : decode cX10_plainTells 11 = .ok (.istore_n 3, 1) := by decide +kernel
theorem dX10_plainTells_12 : decode cX10_plainTells 12 = .ok (.iload_n 3, 1) := by decide +kernel
theorem dX10_plainTells_13 : decode cX10_plainTells 13 = .ok (.aload_n 0, 1) := by decide +kernel
theorem dX10_plainTells_14 : decode cX10_plainTells 14 = .ok (.iload_n 1, 1) := by decide +kernel
theorem dX10_plainTells_15 : decode cX10_plainTells 15 = .ok (.iconst 1, 1) := by decide +kernel
theorem dX10_plainTells_16 : decode cX10_plainTells 16 = .ok (.invokevirtual 410, 3) := by decide +kernel
theorem dX10_plainTells_19 : decode cX10_plainTells 19 = .ok (.isub, 1) := by decide +kernel
theorem dX10_plainTells_20 : decode cX10_plainTells 20 = .ok (.ireturn, 1) := by decide +kernel
theorem dX10_telling_0 : decode cX10_telling 0 = .ok (.aload_n 0, 1) := by decide +kernel
theorem dX10_telling_1 : decode cX10_telling 1 = .ok (.getfield 117, 3) := by decide +kernel
theorem dX10_telling_4 : decode cX10_telling 4 = .ok (.iload_n 1, 1) := by decide +kernel
theorem dX10_telling_5 : decode cX10_telling 5 = .ok (.iaload, 1) := by decide +kernel
theorem dX10_telling_6 : decode cX10_telling 6 = .ok (.iconst 4, 1) := by decide +kernel
theorem dX10_telling_7 : decode cX10_telling 7 = .ok (.if_icmp .ne 18, 3) := by decide +kernel
theorem dX10_telling_10 : decode cX10_telling 10 = .ok (.aload_n 0, 1) := by decide +kernel
theorem dX10_telling_11 : decode cX10_telling 11 = .ok (.bipush 50, 2) := by decide +kernel
theorem dX10_telling_13 : decode cX10_telling 13 = .ok (.invokevirtual 389, 3) := by decide +kernel
theorem dX10_telling_16 : decode cX10_telling 16 = .ok (.aload_n 0, 1) := by decide +kernel
theorem dX10_telling_17 : decode cX10_telling 17 = .ok (.iload_n 1, 1) := by decide +kernel
theorem dX10_telling_18 : decode cX10_telling 18 = .ok (.iload_n 2, 1) := by decide +kernel
theorem dX10_telling_19 : decode cX10_telling 19 = .ok (.invokevirtual 422, 3) := by decide +kernel
theorem dX10_telling_22 : decode cX10_telling 22 = .ok (.iconst 5, 1) := by decide +kernel
theorem dX10_telling_23 : decode cX10_telling 23 = .ok (.ixor, 1) := by decide +kernel
theorem dX10_telling_24 : decode cX10_telling 24 = .ok (.ireturn, 1) := by decide +kernel
theorem dX10_telling_25 : decode cX10_telling 25 = .ok (.aload_n 0, 1) := by decide +kernel
theorem dX10_telling_26 : decode cX10_telling 26 = .ok (.getfield 117, 3) := by decide +kernel
theorem dX10_telling_29 : decode cX10_telling 29 = .ok (.iload_n 1, 1) := by decide +kernel
theorem dX10_telling_30 : decode cX10_telling 30 = .ok (.iaload, 1) := by decide +kernel
theorem dX10_telling_31 : decode cX10_telling 31 = .ok (.iconst 5, 1) := by decide +kernel
theorem dX10_telling_32 : decode cX10_telling 32 = .ok (.if_icmp .ne 18, 3) := by decide +kernel
theorem dX10_telling_35 : decode cX10_telling 35 = .ok (.aload_n 0, 1) := by decide +kernel
theorem dX10_telling_36 : decode cX10_telling 36 = .ok (.bipush 61, 2) := by decide +kernel
theorem dX10_telling_38 : decode cX10_telling 38 = .ok (.invokevirtual 389, 3) := by decide +kernel
theorem dX10_telling_41 : decode cX10_telling 41 = .ok (.aload_n 0, 1) := by decide +kernel
theorem dX10_telling_42 : decode cX10_telling 42 = .ok (.iload_n 1, 1) := by decide +kernel
theorem dX10_telling_43 : decode cX10_telling 43 = .ok (.iload_n 2, 1) := by decide +kernel
theorem dX10_telling_44 : decode cX10_telling 44 = .ok (.invokevirtual 422, 3) := by decide +kernel
theorem dX10_telling_47 : decode cX10_telling 47 = .ok (.iconst 1, 1) := by decide +kernel
theorem dX10_telling_48 : decode cX10_telling 48 = .ok (.iadd, 1) := by decide +kernel
theorem dX10_telling_49 : decode cX10_telling 49 = .ok (.ireturn, 1) := by decide +kernel
theorem dX10_telling_50 : decode cX10_telling 50 = .ok (.aload_n 0, 1) := by decide +kernel
theorem dX10_telling_51 : decode cX10_telling 51 = .ok (.iload_n 1, 1) := by decide +kernel
theorem dX10_telling_52 : decode cX10_telling 52 = .ok (.iload_n 2, 1) := by decide +kernel
theorem dX10_telling_53 : decode cX10_telling 53 = .ok (.invokevirtual 422, 3) := by decide +kernel
theorem dX10_telling_56 : decode cX10_telling 56 = .ok (.ireturn, 1) := by decide +kernel
theorem dX10_act_0 : decode cX10_act 0 = .ok (.aload_n 0, 1) := by decide +kernel
theorem dX10_act_1 : decode cX10_act 1 = .ok (.iconst 0, 1) := by decide +kernel
theorem dX10_act_2 : decode cX10_act 2 = .ok (.putfield 386, 3) := by decide +kernel
theorem dX10_act_5 : decode cX10_act 5 = .ok (.aload_n 0, 1) := by decide +kernel
theorem dX10_act_6 : decode cX10_act 6 = .ok (.iload_n 1, 1) := by decide +kernel
theorem dX10_act_7 : decode cX10_act 7 = .ok (.invokevirtual 425, 3) := by decide +kernel
theorem dX10_act_10 : decode cX10_act 10 = .ok (.ifCond .eq 12, 3) := by decide +kernel
theorem dX10_act_13 : decode cX10_act 13 = .ok (.iload_n 2, 1) := by decide +kernel
theorem dX10_act_14 : decode cX10_act 14 = .ok (.iconst 0, 1) := by decide +kernel
theorem dX10_act_15 : decode cX10_act 15 = .ok (.iconst 3, 1) := by decide +kernel
theorem dX10_act_16 : decode cX10_act 16 = .ok (.invokestatic 142, 3) := by decide +kernel
theorem dX10_act_19 : decode cX10_act 19 = .ok (.ifCond .ne 5, 3) := by decide +kernel
theorem dX10_act_22 : decode cX10_act 22 = .ok (.iconst 0, 1) := by decide +kernel
theorem dX10_act_23 : decode cX10_act 23 = .ok (.ireturn, 1) := by decide +kernel
theorem dX10_act_24 : decode cX10_act 24 = .ok (.iload_n 2, 1) := by decide +kernel
theorem dX10_act_25 : decode cX10_act 25 = .ok (.ifCond .ne 12, 3) := by decide +kernel
theorem dX10_act_28 : decode cX10_act 28 = .ok (.aload_n 0, 1) := by decide +kernel
theorem dX10_act_29 : decode cX10_act 29 = .ok (.iload_n 1, 1) := by decide +kernel
theorem dX10_act_30 : decode cX10_act 30 = .ok (.iload_n 3, 1) := by decide +kernel
theorem dX10_act_31 : decode cX10_act 31 = .ok (.invokevirtual 401, 3) := by decide +kernel
theorem dX10_act_34 : decode cX10_act 34 = .ok (.goto 37, 3) := by decide +kernel
theorem dX10_act_37 : decode cX10_act 37 = .ok (.iload_n 2, 1) := by decide +kernel
theorem dX10_act_38 : decode cX10_act 38 = .ok (.iconst 1, 1) := by decide +kernel
theorem dX10_act_39 : decode cX10_act 39 = .ok (.if_icmp .ne 12, 3) := by decide +kernel
theorem dX10_act_42 : decode cX10_act 42 = .ok (.aload_n 0, 1) := by decide +kernel
theorem dX10_act_43 : decode cX10_act 43 = .ok (.iload_n 1, 1) := by decide +kernel
theorem dX10_act_44 : decode cX10_act 44 = .ok (.iload_n 3, 1) := by decide +kernel
theorem dX10_act_45 : decode cX10_act 45 = .ok (.invokevirtual 419, 3) := by decide +kernel
theorem dX10_act_48 : decode cX10_act 48 = .ok (.goto 23, 3) := by decide +kernel
theorem dX10_act_51 : decode cX10_act 51 = .ok (.iload_n 2, 1) := by decide +kernel
theorem dX10_act_52 : decode cX10_act 52 = .ok (.iconst 2, 1) := by decide +kernel
theorem dX10_act_53 : decode cX10_act 53 = .ok (.if_icmp .ne 12, 3) := by decide +kernel
theorem dX10_act_56 : decode cX10_act 56 = .ok (.aload_n 0, 1) := by decide +kernel
theorem dX10_act_57 : decode cX10_act 57 = .ok (.iload_n 1, 1) := by decide +kernel
theorem dX10_act_58 : decode cX10_act 58 = .ok (.iload_n 3, 1) := by decide +kernel
theorem dX10_act_59 : decode cX10_act 59 = .ok (.invokevirtual 410, 3) := by decide +kernel
theorem dX10_act_62 : decode cX10_act 62 = .ok (.goto 9, 3) := by decide +kernel
theorem dX10_act_65 : decode cX10_act 65 = .ok (.aload_n 0, 1) := by decide +kernel
theorem dX10_act_66 : decode cX10_act 66 = .ok (.iload_n 1, 1) := by decide +kernel
theorem dX10_act_67 : decode cX10_act 67 = .ok (.iload_n 3, 1) := by decide +kernel
theorem dX10_act_68 : decode cX10_act 68 = .ok (.invokevirtual 428, 3) := by decide +kernel
theorem dX10_act_71 : decode cX10_act 71 = .ok (.ireturn, 1) := by decide +kernel
theorem dX10_count_0 : decode cX10_count 0 = .ok (.iload_n 1, 1) := by decide +kernel
theorem dX10_count_1 : decode cX10_count 1 = .ok (.tableswitch 69 0 5 #[39, 44, 49, 54, 59, 64], 39) := by decide +kernel
theorem dX10_count_40 : decode cX10_count 40 = .ok (.aload_n 0, 1) := by decide +kernel
theorem dX10_count_41 : decode cX10_count 41 = .ok (.getfield 139, 3) := by decide +kernel
theorem dX10_count_44 : decode cX10_count 44 = .ok (.ireturn, 1) := by decide +kernel
theorem dX10_count_45 : decode cX10_count 45 = .ok (.aload_n 0, 1) := by decide +kernel
theorem dX10_count_46 : decode cX10_count 46 = .ok (.getfield 146, 3) := by decide +kernel
theorem dX10_count_49 : decode cX10_count 49 = .ok (.ireturn, 1) := by decide +kernel
theorem dX10_count_50 : decode cX10_count 50 = .ok (.aload_n 0, 1) := by decide +kernel
theorem dX10_count_51 : decode cX10_count 51 = .ok (.getfield 189, 3) := by decide +kernel
theorem dX10_count_54 : decode cX10_count 54 = .ok (.ireturn, 1) := by decide +kernel
theorem dX10_count_55 : decode cX10_count 55 = .ok (.aload_n 0, 1) := by decide +kernel
theorem dX10_count_56 : decode cX10_count 56 = .ok (.getfield 166, 3) := by decide +kernel
theorem dX10_count_59 : decode cX10_count 59 = .ok (.ireturn, 1) := by decide +kernel
theorem dX10_count_60 : decode cX10_count 60 = .ok (.aload_n 0, 1) := by decide +kernel
theorem dX10_count_61 : decode cX10_count 61 = .ok (.getfield 383, 3) := by decide +kernel
theorem dX10_count_64 : decode cX10_count 64 = .ok (.ireturn, 1) := by decide +kernel
theorem dX10_count_65 : decode cX10_count 65 = .ok (.aload_n 0, 1) := by decide +kernel
theorem dX10_count_66 : decode cX10_count 66 = .ok (.getfield 386, 3) := by decide +kernel
theorem dX10_count_69 : decode cX10_count 69 = .ok (.ireturn, 1) := by decide +kernel
theorem dX10_count_70 : decode cX10_count 70 = .ok (.iconst (-1), 1) := by decide +kernel
theorem dX10_count_71 : decode cX10_count 71 = .ok (.ireturn, 1) := by decide +kernel
theorem dX10_isShelf_0 : decode cX10_isShelf 0 = .ok (.iload_n 0, 1) := by decide +kernel
theorem dX10_isShelf_1 : decode cX10_isShelf 1 = .ok (.iconst 0, 1) := by decide +kernel
theorem dX10_isShelf_2 : decode cX10_isShelf 2 = .ok (.iconst 5, 1) := by decide +kernel
theorem dX10_isShelf_3 : decode cX10_isShelf 3 = .ok (.invokestatic 142, 3) := by decide +kernel
theorem dX10_isShelf_6 : decode cX10_isShelf 6 = .ok (.ireturn, 1) := by decide +kernel
theorem dX10_keep_0 : decode cX10_keep 0 = .ok (.iload_n 1, 1) := by decide +kernel
theorem dX10_keep_1 : decode cX10_keep 1 = .ok (.invokestatic 153, 3) := by decide +kernel
theorem dX10_keep_4 : decode cX10_keep 4 = .ok (.ifCond .eq 16, 3) := by decide +kernel
theorem dX10_keep_7 : decode cX10_keep 7 = .ok (.iload_n 2, 1) := by decide +kernel
theorem dX10_keep_8 : decode cX10_keep 8 = .ok (.iconst (-1), 1) := by decide +kernel
theorem dX10_keep_9 : decode cX10_keep 9 = .ok (.if_icmp .eq 13, 3) := by decide +kernel
theorem dX10_keep_12 : decode cX10_keep 12 = .ok (.aload_n 0, 1) := by decide +kernel
theorem dX10_keep_13 : decode cX10_keep 13 = .ok (.iload_n 2, 1) := by decide +kernel
theorem dX10_keep_14 : decode cX10_keep 14 = .ok (.invokevirtual 425, 3) := by decide +kernel
theorem dX10_keep_17 : decode cX10_keep 17 = .ok (.ifCond .ne 5, 3) := by decide +kernel
theorem dX10_keep_20 : decode cX10_keep 20 = .ok (.iconst (-1), 1) := by decide +kernel
theorem dX10_keep_21 : decode cX10_keep 21 = .ok (.ireturn, 1) := by decide +kernel
theorem dX10_keep_22 : decode cX10_keep 22 = .ok (.aload_n 0, 1) := by decide +kernel
theorem dX10_keep_23 : decode cX10_keep 23 = .ok (.getfield 123, 3) := by decide +kernel
theorem dX10_keep_26 : decode cX10_keep 26 = .ok (.iload_n 1, 1) := by decide +kernel
theorem dX10_keep_27 : decode cX10_keep 27 = .ok (.iload_n 2, 1) := by decide +kernel
theorem dX10_keep_28 : decode cX10_keep 28 = .ok (.iastore, 1) := by decide +kernel
theorem dX10_keep_29 : decode cX10_keep 29 = .ok (.iconst 1, 1) := by decide +kernel
theorem dX10_keep_30 : decode cX10_keep 30 = .ok (.ireturn, 1) := by decide +kernel
theorem dX10_row_0 : decode cX10_row 0 = .ok (.iload_n 1, 1) := by decide +kernel
theorem dX10_row_1 : decode cX10_row 1 = .ok (.invokestatic 153, 3) := by decide +kernel
theorem dX10_row_4 : decode cX10_row 4 = .ok (.ifCond .eq 18, 3) := by decide +kernel
theorem dX10_row_7 : decode cX10_row 7 = .ok (.iload_n 2, 1) := by decide +kernel
theorem dX10_row_8 : decode cX10_row 8 = .ok (.iconst 0, 1) := by decide +kernel
theorem dX10_row_9 : decode cX10_row 9 = .ok (.iconst 4, 1) := by decide +kernel
theorem dX10_row_10 : decode cX10_row 10 = .ok (.invokestatic 142, 3) := by decide +kernel
theorem dX10_row_13 : decode cX10_row 13 = .ok (.ifCond .eq 9, 3) := by decide +kernel
theorem dX10_row_16 : decode cX10_row 16 = .ok (.iload_n 3, 1) := by decide +kernel
theorem dX10_row_17 : decode cX10_row 17 = .ok (.bipush 60, 2) := by decide +kernel
theorem dX10_row_19 : decode cX10_row 19 = .ok (.if_icmp .le 5, 3) := by decide +kernel
theorem dX10_row_22 : decode cX10_row 22 = .ok (.iconst (-1), 1) := by decide +kernel
theorem dX10_row_23 : decode cX10_row 23 = .ok (.ireturn, 1) := by decide +kernel
theorem dX10_row_24 : decode cX10_row 24 = .ok (.iload_n 3, 1) := by decide +kernel
theorem dX10_row_25 : decode cX10_row 25 = .ok (.ifCond .ge 6, 3) := by decide +kernel
theorem dX10_row_28 : decode cX10_row 28 = .ok (.bipush (-14), 2) := by decide +kernel
theorem dX10_row_30 : decode cX10_row 30 = .ok (.ireturn, 1) := by decide +kernel
theorem dX10_row_31 : decode cX10_row 31 = .ok (.aload_n 0, 1) := by decide +kernel
theorem dX10_row_32 : decode cX10_row 32 = .ok (.getfield 123, 3) := by decide +kernel
theorem dX10_row_35 : decode cX10_row 35 = .ok (.iload_n 1, 1) := by decide +kernel
theorem dX10_row_36 : decode cX10_row 36 = .ok (.bipush (-2), 2) := by decide +kernel
theorem dX10_row_38 : decode cX10_row 38 = .ok (.iload_n 2, 1) := by decide +kernel
theorem dX10_row_39 : decode cX10_row 39 = .ok (.isub, 1) := by decide +kernel
theorem dX10_row_40 : decode cX10_row 40 = .ok (.iastore, 1) := by decide +kernel
theorem dX10_row_41 : decode cX10_row 41 = .ok (.aload_n 0, 1) := by decide +kernel
theorem dX10_row_42 : decode cX10_row 42 = .ok (.getfield 126, 3) := by decide +kernel
theorem dX10_row_45 : decode cX10_row 45 = .ok (.iload_n 1, 1) := by decide +kernel
theorem dX10_row_46 : decode cX10_row 46 = .ok (.iload_n 3, 1) := by decide +kernel
theorem dX10_row_47 : decode cX10_row 47 = .ok (.iastore, 1) := by decide +kernel
theorem dX10_row_48 : decode cX10_row 48 = .ok (.bipush 60, 2) := by decide +kernel
theorem dX10_row_50 : decode cX10_row 50 = .ok (.iload_n 1, 1) := by decide +kernel
theorem dX10_row_51 : decode cX10_row 51 = .ok (.imul, 1) := by decide +kernel
theorem dX10_row_52 : decode cX10_row 52 = .ok (.istore 4, 2) := by decide +kernel
theorem dX10_row_54 : decode cX10_row 54 = .ok (.iload 4, 2) := by decide +kernel
theorem dX10_row_56 : decode cX10_row 56 = .ok (.bipush 60, 2) := by decide +kernel
theorem dX10_row_58 : decode cX10_row 58 = .ok (.iload_n 1, 1) := by decide +kernel
theorem dX10_row_59 : decode cX10_row 59 = .ok (.imul, 1) := by decide +kernel
theorem dX10_row_60 : decode cX10_row 60 = .ok (.bipush 60, 2) := by decide +kernel
theorem dX10_row_62 : decode cX10_row 62 = .ok (.iadd, 1) := by decide +kernel
theorem dX10_row_63 : decode cX10_row 63 = .ok (.if_icmp .ge 17, 3) := by decide +kernel
theorem dX10_row_66 : decode cX10_row 66 = .ok (.aload_n 0, 1) := by decide +kernel
theorem dX10_row_67 : decode cX10_row 67 = .ok (.getfield 129, 3) := by decide +kernel
theorem dX10_row_70 : decode cX10_row 70 = .ok (.iload 4, 2) := by decide +kernel
theorem dX10_row_72 : decode cX10_row 72 = .ok (.lconst 0, 1) := by decide +kernel
theorem dX10_row_73 : decode cX10_row 73 = .ok (.lastore, 1) := by decide +kernel
theorem dX10_row_74 : decode cX10_row 74 = .ok (.iinc 4 1, 3) := by decide +kernel
theorem dX10_row_77 : decode cX10_row 77 = .ok (.goto (-23), 3) := by decide +kernel
theorem dX10_row_80 : decode cX10_row 80 = .ok (.iconst 1, 1) := by decide +kernel
theorem dX10_row_81 : decode cX10_row 81 = .ok (.ireturn, 1) := by decide +kernel
theorem dX10_whyNoPlace_0 : decode cX10_whyNoPlace 0 = .ok (.iload_n 1, 1) := by decide +kernel
theorem dX10_whyNoPlace_1 : decode cX10_whyNoPlace 1 = .ok (.invokestatic 153, 3) := by decide +kernel
theorem dX10_whyNoPlace_4 : decode cX10_whyNoPlace 4 = .ok (.ifCond .ne 5, 3) := by decide +kernel
theorem dX10_whyNoPlace_7 : decode cX10_whyNoPlace 7 = .ok (.iconst (-1), 1) := by decide +kernel
theorem dX10_whyNoPlace_8 : decode cX10_whyNoPlace 8 = .ok (.ireturn, 1) := by decide +kernel
theorem dX10_whyNoPlace_9 : decode cX10_whyNoPlace 9 = .ok (.aload_n 0, 1) := by decide +kernel
theorem dX10_whyNoPlace_10 : decode cX10_whyNoPlace 10 = .ok (.getfield 123, 3) := by decide +kernel
theorem dX10_whyNoPlace_13 : decode cX10_whyNoPlace 13 = .ok (.iload_n 1, 1) := by decide +kernel
theorem dX10_whyNoPlace_14 : decode cX10_whyNoPlace 14 = .ok (.iaload, 1) := by decide +kernel
theorem dX10_whyNoPlace_15 : decode cX10_whyNoPlace 15 = .ok (.iconst (-1), 1) := by decide +kernel
theorem dX10_whyNoPlace_16 : decode cX10_whyNoPlace 16 = .ok (.if_icmp .ne 6, 3) := by decide +kernel
theorem dX10_whyNoPlace_19 : decode cX10_whyNoPlace 19 = .ok (.bipush (-11), 2) := by decide +kernel
theorem dX10_whyNoPlace_21 : decode cX10_whyNoPlace 21 = .ok (.ireturn, 1) := by decide +kernel
theorem dX10_whyNoPlace_22 : decode cX10_whyNoPlace 22 = .ok (.aload_n 0, 1) := by decide +kernel
theorem dX10_whyNoPlace_23 : decode cX10_whyNoPlace 23 = .ok (.getfield 123, 3) := by decide +kernel
theorem dX10_whyNoPlace_26 : decode cX10_whyNoPlace 26 = .ok (.iload_n 1, 1) := by decide +kernel
theorem dX10_whyNoPlace_27 : decode cX10_whyNoPlace 27 = .ok (.iaload, 1) := by decide +kernel
theorem dX10_whyNoPlace_28 : decode cX10_whyNoPlace 28 = .ok (.ifCond .lt 6, 3) := by decide +kernel
theorem dX10_whyNoPlace_31 : decode cX10_whyNoPlace 31 = .ok (.bipush (-12), 2) := by decide +kernel
theorem dX10_whyNoPlace_33 : decode cX10_whyNoPlace 33 = .ok (.ireturn, 1) := by decide +kernel
theorem dX10_whyNoPlace_34 : decode cX10_whyNoPlace 34 = .ok (.iload_n 2, 1) := by decide +kernel
theorem dX10_whyNoPlace_35 : decode cX10_whyNoPlace 35 = .ok (.iconst 0, 1) := by decide +kernel
theorem dX10_whyNoPlace_36 : decode cX10_whyNoPlace 36 = .ok (.aload_n 0, 1) := by decide +kernel
theorem dX10_whyNoPlace_37 : decode cX10_whyNoPlace 37 = .ok (.getfield 126, 3) := by decide +kernel
theorem dX10_whyNoPlace_40 : decode cX10_whyNoPlace 40 = .ok (.iload_n 1, 1) := by decide +kernel
theorem dX10_whyNoPlace_41 : decode cX10_whyNoPlace 41 = .ok (.iaload, 1) := by decide +kernel
theorem dX10_whyNoPlace_42 : decode cX10_whyNoPlace 42 = .ok (.iconst 1, 1) := by decide +kernel
theorem dX10_whyNoPlace_43 : decode cX10_whyNoPlace 43 = .ok (.isub, 1) := by decide +kernel
theorem dX10_whyNoPlace_44 : decode cX10_whyNoPlace 44 = .ok (.invokestatic 142, 3) := by decide +kernel
theorem dX10_whyNoPlace_47 : decode cX10_whyNoPlace 47 = .ok (.ifCond .eq 7, 3) := by decide +kernel
theorem dX10_whyNoPlace_50 : decode cX10_whyNoPlace 50 = .ok (.iconst 0, 1) := by decide +kernel
theorem dX10_whyNoPlace_51 : decode cX10_whyNoPlace 51 = .ok (.goto 5, 3) := by decide +kernel
theorem dX10_whyNoPlace_54 : decode cX10_whyNoPlace 54 = .ok (.bipush (-13), 2) := by decide +kernel
theorem dX10_whyNoPlace_56 : decode cX10_whyNoPlace 56 = .ok (.ireturn, 1) := by decide +kernel
theorem dX10_put_0 : decode cX10_put 0 = .ok (.aload_n 0, 1) := by decide +kernel
theorem dX10_put_1 : decode cX10_put 1 = .ok (.iload_n 1, 1) := by decide +kernel
theorem dX10_put_2 : decode cX10_put 2 = .ok (.iload_n 2, 1) := by decide +kernel
theorem dX10_put_3 : decode cX10_put 3 = .ok (.invokevirtual 431, 3) := by decide +kernel
theorem dX10_put_6 : decode cX10_put 6 = .ok (.istore 5, 2) := by decide +kernel
theorem dX10_put_8 : decode cX10_put 8 = .ok (.iload 5, 2) := by decide +kernel
theorem dX10_put_10 : decode cX10_put 10 = .ok (.ifCond .ge 6, 3) := by decide +kernel
theorem dX10_put_13 : decode cX10_put 13 = .ok (.iload 5, 2) := by decide +kernel
theorem dX10_put_15 : decode cX10_put 15 = .ok (.ireturn, 1) := by decide +kernel
theorem dX10_put_16 : decode cX10_put 16 = .ok (.bipush (-2), 2) := by decide +kernel
theorem dX10_put_18 : decode cX10_put 18 = .ok (.aload_n 0, 1) := by decide +kernel
theorem dX10_put_19 : decode cX10_put 19 = .ok (.getfield 123, 3) := by decide +kernel
theorem dX10_put_22 : decode cX10_put 22 = .ok (.iload_n 1, 1) := by decide +kernel
theorem dX10_put_23 : decode cX10_put 23 = .ok (.iaload, 1) := by decide +kernel
theorem dX10_put_24 : decode cX10_put 24 = .ok (.isub, 1) := by decide +kernel
theorem dX10_put_25 : decode cX10_put 25 = .ok (.istore 6, 2) := by decide +kernel
theorem dX10_put_27 : decode cX10_put 27 = .ok (.aload_n 0, 1) := by decide +kernel
theorem dX10_put_28 : decode cX10_put 28 = .ok (.getfield 129, 3) := by decide +kernel
theorem dX10_put_31 : decode cX10_put 31 = .ok (.bipush 60, 2) := by decide +kernel
theorem dX10_put_33 : decode cX10_put 33 = .ok (.iload_n 1, 1) := by decide +kernel
theorem dX10_put_34 : decode cX10_put 34 = .ok (.imul, 1) := by decide +kernel
theorem dX10_put_35 : decode cX10_put 35 = .ok (.iload_n 2, 1) := by decide +kernel
theorem dX10_put_36 : decode cX10_put 36 = .ok (.iadd, 1) := by decide +kernel
theorem dX10_put_37 : decode cX10_put 37 = .ok (.iload 6, 2) := by decide +kernel
theorem dX10_put_39 : decode cX10_put 39 = .ok (.ifCond .ne 10, 3) := by decide +kernel
theorem dX10_put_42 : decode cX10_put 42 = .ok (.lload_n 3, 1) := by decide +kernel
theorem dX10_put_43 : decode cX10_put 43 = .ok (.l2i, 1) := by decide +kernel
theorem dX10_put_44 : decode cX10_put 44 = .ok (.i2b, 1) := by decide +kernel
theorem dX10_put_45 : decode cX10_put 45 = .ok (.i2l, 1) := by decide +kernel
theorem dX10_put_46 : decode cX10_put 46 = .ok (.goto 49, 3) := by decide +kernel
theorem dX10_put_49 : decode cX10_put 49 = .ok (.iload 6, 2) := by decide +kernel
theorem dX10_put_51 : decode cX10_put 51 = .ok (.iconst 1, 1) := by decide +kernel
theorem dX10_put_52 : decode cX10_put 52 = .ok (.if_icmp .ne 10, 3) := by decide +kernel
theorem dX10_put_55 : decode cX10_put 55 = .ok (.lload_n 3, 1) := by decide +kernel
theorem dX10_put_56 : decode cX10_put 56 = .ok (.l2i, 1) := by decide +kernel
theorem dX10_put_57 : decode cX10_put 57 = .ok (.i2s, 1) := by decide +kernel
theorem dX10_put_58 : decode cX10_put 58 = .ok (.i2l, 1) := by decide +kernel
theorem dX10_put_59 : decode cX10_put 59 = .ok (.goto 36, 3) := by decide +kernel
theorem dX10_put_62 : decode cX10_put 62 = .ok (.iload 6, 2) := by decide +kernel
theorem dX10_put_64 : decode cX10_put 64 = .ok (.iconst 2, 1) := by decide +kernel
theorem dX10_put_65 : decode cX10_put 65 = .ok (.if_icmp .ne 9, 3) := by decide +kernel
theorem dX10_put_68 : decode cX10_put 68 = .ok (.lload_n 3, 1) := by decide +kernel
theorem dX10_put_69 : decode cX10_put 69 = .ok (.l2i, 1) := by decide +kernel
theorem dX10_put_70 : decode cX10_put 70 = .ok (.i2l, 1) := by decide +kernel
theorem dX10_put_71 : decode cX10_put 71 = .ok (.goto 24, 3) := by decide +kernel
theorem dX10_put_74 : decode cX10_put 74 = .ok (.iload 6, 2) := by decide +kernel
theorem dX10_put_76 : decode cX10_put 76 = .ok (.iconst 3, 1) := by decide +kernel
theorem dX10_put_77 : decode cX10_put 77 = .ok (.if_icmp .ne 7, 3) := by decide +kernel
theorem dX10_put_80 : decode cX10_put 80 = .ok (.lload_n 3, 1) := by decide +kernel
theorem dX10_put_81 : decode cX10_put 81 = .ok (.goto 14, 3) := by decide +kernel
theorem dX10_put_84 : decode cX10_put 84 = .ok (.lload_n 3, 1) := by decide +kernel
theorem dX10_put_85 : decode cX10_put 85 = .ok (.lconst 0, 1) := by decide +kernel
theorem dX10_put_86 : decode cX10_put 86 = .ok (.lcmp, 1) := by decide +kernel
theorem dX10_put_87 : decode cX10_put 87 = .ok (.ifCond .eq 7, 3) := by decide +kernel
theorem dX10_put_90 : decode cX10_put 90 = .ok (.lconst 1, 1) := by decide +kernel
theorem dX10_put_91 : decode cX10_put 91 = .ok (.goto 4, 3) := by decide +kernel
theorem dX10_put_94 : decode cX10_put 94 = .ok (.lconst 0, 1) := by decide +kernel
theorem dX10_put_95 : decode cX10_put 95 = .ok (.lastore, 1) := by decide +kernel
theorem dX10_put_96 : decode cX10_put 96 = .ok (.iconst 1, 1) := by decide +kernel
theorem dX10_put_97 : decode cX10_put 97 = .ok (.ireturn, 1) := by decide +kernel
theorem dX10_element_0 : decode cX10_element 0 = .ok (.aload_n 0, 1) := by decide +kernel
theorem dX10_element_1 : decode cX10_element 1 = .ok (.iload_n 1, 1) := by decide +kernel
theorem dX10_element_2 : decode cX10_element 2 = .ok (.iload_n 2, 1) := by decide +kernel
theorem dX10_element_3 : decode cX10_element 3 = .ok (.invokevirtual 431, 3) := by decide +kernel
theorem dX10_element_6 : decode cX10_element 6 = .ok (.ifCond .ge 9, 3) := by decide +kernel
theorem dX10_element_9 : decode cX10_element 9 = .ok (.ldc2_w 355, 3) := by decide +kernel
theorem dX10_element_12 : decode cX10_element 12 = .ok (.goto 14, 3) := by decide +kernel
theorem dX10_element_15 : decode cX10_element 15 = .ok (.aload_n 0, 1) := by decide +kernel
theorem dX10_element_16 : decode cX10_element 16 = .ok (.getfield 129, 3) := by decide +kernel
theorem dX10_element_19 : decode cX10_element 19 = .ok (.bipush 60, 2) := by decide +kernel
theorem dX10_element_21 : decode cX10_element 21 = .ok (.iload_n 1, 1) := by decide +kernel
theorem dX10_element_22 : decode cX10_element 22 = .ok (.imul, 1) := by decide +kernel
theorem dX10_element_23 : decode cX10_element 23 = .ok (.iload_n 2, 1) := by decide +kernel
theorem dX10_element_24 : decode cX10_element 24 = .ok (.iadd, 1) := by decide +kernel
theorem dX10_element_25 : decode cX10_element 25 = .ok (.laload, 1) := by decide +kernel
theorem dX10_element_26 : decode cX10_element 26 = .ok (.lreturn, 1) := by decide +kernel
theorem dX10_shift_0 : decode cX10_shift 0 = .ok (.iload_n 1, 1) := by decide +kernel
theorem dX10_shift_1 : decode cX10_shift 1 = .ok (.invokestatic 153, 3) := by decide +kernel
theorem dX10_shift_4 : decode cX10_shift 4 = .ok (.ifCond .eq 10, 3) := by decide +kernel
theorem dX10_shift_7 : decode cX10_shift 7 = .ok (.iload_n 3, 1) := by decide +kernel
theorem dX10_shift_8 : decode cX10_shift 8 = .ok (.invokestatic 153, 3) := by decide +kernel
theorem dX10_shift_11 : decode cX10_shift 11 = .ok (.ifCond .ne 5, 3) := by decide +kernel
theorem dX10_shift_14 : decode cX10_shift 14 = .ok (.iconst (-1), 1) := by decide +kernel
theorem dX10_shift_15 : decode cX10_shift 15 = .ok (.ireturn, 1) := by decide +kernel
theorem dX10_shift_16 : decode cX10_shift 16 = .ok (.aload_n 0, 1) := by decide +kernel
theorem dX10_shift_17 : decode cX10_shift 17 = .ok (.getfield 123, 3) := by decide +kernel
theorem dX10_shift_20 : decode cX10_shift 20 = .ok (.iload_n 1, 1) := by decide +kernel
theorem dX10_shift_21 : decode cX10_shift 21 = .ok (.iaload, 1) := by decide +kernel
theorem dX10_shift_22 : decode cX10_shift 22 = .ok (.iconst (-1), 1) := by decide +kernel
theorem dX10_shift_23 : decode cX10_shift 23 = .ok (.if_icmp .eq 13, 3) := by decide +kernel
theorem dX10_shift_26 : decode cX10_shift 26 = .ok (.aload_n 0, 1) := by decide +kernel
theorem dX10_shift_27 : decode cX10_shift 27 = .ok (.getfield 123, 3) := by decide +kernel
theorem dX10_shift_30 : decode cX10_shift 30 = .ok (.iload_n 3, 1) := by decide +kernel
theorem dX10_shift_31 : decode cX10_shift 31 = .ok (.iaload, 1) := by decide +kernel
theorem dX10_shift_32 : decode cX10_shift 32 = .ok (.iconst (-1), 1) := by decide +kernel
theorem dX10_shift_33 : decode cX10_shift 33 = .ok (.if_icmp .ne 6, 3) := by decide +kernel
theorem dX10_shift_36 : decode cX10_shift 36 = .ok (.bipush (-11), 2) := by decide +kernel
theorem dX10_shift_38 : decode cX10_shift 38 = .ok (.ireturn, 1) := by decide +kernel
theorem dX10_shift_39 : decode cX10_shift 39 = .ok (.aload_n 0, 1) := by decide +kernel
theorem dX10_shift_40 : decode cX10_shift 40 = .ok (.getfield 123, 3) := by decide +kernel
theorem dX10_shift_43 : decode cX10_shift 43 = .ok (.iload_n 1, 1) := by decide +kernel
theorem dX10_shift_44 : decode cX10_shift 44 = .ok (.iaload, 1) := by decide +kernel
theorem dX10_shift_45 : decode cX10_shift 45 = .ok (.ifCond .ge 18, 3) := by decide +kernel
theorem dX10_shift_48 : decode cX10_shift 48 = .ok (.aload_n 0, 1) := by decide +kernel
theorem dX10_shift_49 : decode cX10_shift 49 = .ok (.getfield 123, 3) := by decide +kernel
theorem dX10_shift_52 : decode cX10_shift 52 = .ok (.iload_n 1, 1) := by decide +kernel
theorem dX10_shift_53 : decode cX10_shift 53 = .ok (.iaload, 1) := by decide +kernel
theorem dX10_shift_54 : decode cX10_shift 54 = .ok (.aload_n 0, 1) := by decide +kernel
theorem dX10_shift_55 : decode cX10_shift 55 = .ok (.getfield 123, 3) := by decide +kernel
theorem dX10_shift_58 : decode cX10_shift 58 = .ok (.iload_n 3, 1) := by decide +kernel
theorem dX10_shift_59 : decode cX10_shift 59 = .ok (.iaload, 1) := by decide +kernel
theorem dX10_shift_60 : decode cX10_shift 60 = .ok (.if_icmp .eq 6, 3) := by decide +kernel
theorem dX10_shift_63 : decode cX10_shift 63 = .ok (.bipush (-12), 2) := by decide +kernel
theorem dX10_shift_65 : decode cX10_shift 65 = .ok (.ireturn, 1) := by decide +kernel
theorem dX10_shift_66 : decode cX10_shift 66 = .ok (.iload 5, 2) := by decide +kernel
theorem dX10_shift_68 : decode cX10_shift 68 = .ok (.ifCond .lt 39, 3) := by decide +kernel
theorem dX10_shift_71 : decode cX10_shift 71 = .ok (.iload_n 2, 1) := by decide +kernel
theorem dX10_shift_72 : decode cX10_shift 72 = .ok (.ifCond .lt 35, 3) := by decide +kernel
theorem dX10_shift_75 : decode cX10_shift 75 = .ok (.iload 4, 2) := by decide +kernel
theorem dX10_shift_77 : decode cX10_shift 77 = .ok (.ifCond .lt 30, 3) := by decide +kernel
theorem dX10_shift_80 : decode cX10_shift 80 = .ok (.iload_n 2, 1) := by decide +kernel
theorem dX10_shift_81 : decode cX10_shift 81 = .ok (.aload_n 0, 1) := by decide +kernel
theorem dX10_shift_82 : decode cX10_shift 82 = .ok (.getfield 126, 3) := by decide +kernel
theorem dX10_shift_85 : decode cX10_shift 85 = .ok (.iload_n 1, 1) := by decide +kernel
theorem dX10_shift_86 : decode cX10_shift 86 = .ok (.iaload, 1) := by decide +kernel
theorem dX10_shift_87 : decode cX10_shift 87 = .ok (.iload 5, 2) := by decide +kernel
theorem dX10_shift_89 : decode cX10_shift 89 = .ok (.isub, 1) := by decide +kernel
theorem dX10_shift_90 : decode cX10_shift 90 = .ok (.if_icmp .gt 17, 3) := by decide +kernel
theorem dX10_shift_93 : decode cX10_shift 93 = .ok (.iload 4, 2) := by decide +kernel
theorem dX10_shift_95 : decode cX10_shift 95 = .ok (.aload_n 0, 1) := by decide +kernel
theorem dX10_shift_96 : decode cX10_shift 96 = .ok (.getfield 126, 3) := by decide +kernel
theorem dX10_shift_99 : decode cX10_shift 99 = .ok (.iload_n 3, 1) := by decide +kernel
theorem dX10_shift_100 : decode cX10_shift 100 = .ok (.iaload, 1) := by decide +kernel
theorem dX10_shift_101 : decode cX10_shift 101 = .ok (.iload 5, 2) := by decide +kernel
theorem dX10_shift_103 : decode cX10_shift 103 = .ok (.isub, 1) := by decide +kernel
theorem dX10_shift_104 : decode cX10_shift 104 = .ok (.if_icmp .le 6, 3) := by decide +kernel
theorem dX10_shift_107 : decode cX10_shift 107 = .ok (.bipush (-13), 2) := by decide +kernel
theorem dX10_shift_109 : decode cX10_shift 109 = .ok (.ireturn, 1) := by decide +kernel
theorem dX10_shift_110 : decode cX10_shift 110 = .ok (.iconst 0, 1) := by decide +kernel
theorem dX10_shift_111 : decode cX10_shift 111 = .ok (.istore 6, 2) := by decide +kernel
theorem dX10_shift_113 : decode cX10_shift 113 = .ok (.iload 6, 2) := by decide +kernel
theorem dX10_shift_115 : decode cX10_shift 115 = .ok (.iload 5, 2) := by decide +kernel
theorem dX10_shift_117 : decode cX10_shift 117 = .ok (.if_icmp .ge 30, 3) := by decide +kernel
theorem dX10_shift_120 : decode cX10_shift 120 = .ok (.aload_n 0, 1) := by decide +kernel
theorem dX10_shift_121 : decode cX10_shift 121 = .ok (.getfield 132, 3) := by decide +kernel
theorem dX10_shift_124 : decode cX10_shift 124 = .ok (.iload 6, 2) := by decide +kernel
theorem dX10_shift_126 : decode cX10_shift 126 = .ok (.aload_n 0, 1) := by decide +kernel
theorem dX10_shift_127 : decode cX10_shift 127 = .ok (.getfield 129, 3) := by decide +kernel
theorem dX10_shift_130 : decode cX10_shift 130 = .ok (.bipush 60, 2) := by decide +kernel
theorem dX10_shift_132 : decode cX10_shift 132 = .ok (.iload_n 1, 1) := by decide +kernel
theorem dX10_shift_133 : decode cX10_shift 133 = .ok (.imul, 1) := by decide +kernel
theorem dX10_shift_134 : decode cX10_shift 134 = .ok (.iload_n 2, 1) := by decide +kernel
theorem dX10_shift_135 : decode cX10_shift 135 = .ok (.iadd, 1) := by decide +kernel
theorem dX10_shift_136 : decode cX10_shift 136 = .ok (.iload 6, 2) := by decide +kernel
theorem dX10_shift_138 : decode cX10_shift 138 = .ok (.iadd, 1) := by decide +kernel
theorem dX10_shift_139 : decode cX10_shift 139 = .ok (.laload, 1) := by decide +kernel
theorem dX10_shift_140 : decode cX10_shift 140 = .ok (.lastore, 1) := by decide +kernel
theorem dX10_shift_141 : decode cX10_shift 141 = .ok (.iinc 6 1, 3) := by decide +kernel
theorem dX10_shift_144 : decode cX10_shift 144 = .ok (.goto (-31), 3) := by decide +kernel
theorem dX10_shift_147 : decode cX10_shift 147 = .ok (.iconst 0, 1) := by decide +kernel
theorem dX10_shift_148 : decode cX10_shift 148 = .ok (.istore 6, 2) := by decide +kernel
theorem dX10_shift_150 : decode cX10_shift 150 = .ok (.iload 6, 2) := by decide +kernel
theorem dX10_shift_152 : decode cX10_shift 152 = .ok (.iload 5, 2) := by decide +kernel
theorem dX10_shift_154 : decode cX10_shift 154 = .ok (.if_icmp .ge 31, 3) := by decide +kernel
theorem dX10_shift_157 : decode cX10_shift 157 = .ok (.aload_n 0, 1) := by decide +kernel
theorem dX10_shift_158 : decode cX10_shift 158 = .ok (.getfield 129, 3) := by decide +kernel
theorem dX10_shift_161 : decode cX10_shift 161 = .ok (.bipush 60, 2) := by decide +kernel
theorem dX10_shift_163 : decode cX10_shift 163 = .ok (.iload_n 3, 1) := by decide +kernel
theorem dX10_shift_164 : decode cX10_shift 164 = .ok (.imul, 1) := by decide +kernel
theorem dX10_shift_165 : decode cX10_shift 165 = .ok (.iload 4, 2) := by decide +kernel
theorem dX10_shift_167 : decode cX10_shift 167 = .ok (.iadd, 1) := by decide +kernel
theorem dX10_shift_168 : decode cX10_shift 168 = .ok (.iload 6, 2) := by decide +kernel
theorem dX10_shift_170 : decode cX10_shift 170 = .ok (.iadd, 1) := by decide +kernel
theorem dX10_shift_171 : decode cX10_shift 171 = .ok (.aload_n 0, 1) := by decide +kernel
theorem dX10_shift_172 : decode cX10_shift 172 = .ok (.getfield 132, 3) := by decide +kernel
theorem dX10_shift_175 : decode cX10_shift 175 = .ok (.iload 6, 2) := by decide +kernel
theorem dX10_shift_177 : decode cX10_shift 177 = .ok (.laload, 1) := by decide +kernel
theorem dX10_shift_178 : decode cX10_shift 178 = .ok (.lastore, 1) := by decide +kernel
theorem dX10_shift_179 : decode cX10_shift 179 = .ok (.iinc 6 1, 3) := by decide +kernel
theorem dX10_shift_182 : decode cX10_shift 182 = .ok (.goto (-32), 3) := by decide +kernel
theorem dX10_shift_185 : decode cX10_shift 185 = .ok (.iload 5, 2) := by decide +kernel
theorem dX10_shift_187 : decode cX10_shift 187 = .ok (.ireturn, 1) := by decide +kernel
theorem dX10_taken_0 : decode cX10_taken 0 = .ok (.iload_n 1, 1) := by decide +kernel
theorem dX10_taken_1 : decode cX10_taken 1 = .ok (.invokestatic 153, 3) := by decide +kernel
theorem dX10_taken_4 : decode cX10_taken 4 = .ok (.ifCond .eq 13, 3) := by decide +kernel
theorem dX10_taken_7 : decode cX10_taken 7 = .ok (.iload_n 2, 1) := by decide +kernel
theorem dX10_taken_8 : decode cX10_taken 8 = .ok (.iconst 0, 1) := by decide +kernel
theorem dX10_taken_9 : decode cX10_taken 9 = .ok (.bipush 7, 2) := by decide +kernel
theorem dX10_taken_11 : decode cX10_taken 11 = .ok (.invokestatic 142, 3) := by decide +kernel
theorem dX10_taken_14 : decode cX10_taken 14 = .ok (.ifCond .ne 5, 3) := by decide +kernel
theorem dX10_taken_17 : decode cX10_taken 17 = .ok (.iconst (-1), 1) := by decide +kernel
theorem dX10_taken_18 : decode cX10_taken 18 = .ok (.ireturn, 1) := by decide +kernel
theorem dX10_taken_19 : decode cX10_taken 19 = .ok (.aload_n 0, 1) := by decide +kernel
theorem dX10_taken_20 : decode cX10_taken 20 = .ok (.getfield 123, 3) := by decide +kernel
theorem dX10_taken_23 : decode cX10_taken 23 = .ok (.iload_n 1, 1) := by decide +kernel
theorem dX10_taken_24 : decode cX10_taken 24 = .ok (.iaload, 1) := by decide +kernel
theorem dX10_taken_25 : decode cX10_taken 25 = .ok (.iconst (-1), 1) := by decide +kernel
theorem dX10_taken_26 : decode cX10_taken 26 = .ok (.if_icmp .ne 6, 3) := by decide +kernel
theorem dX10_taken_29 : decode cX10_taken 29 = .ok (.bipush (-11), 2) := by decide +kernel
theorem dX10_taken_31 : decode cX10_taken 31 = .ok (.ireturn, 1) := by decide +kernel
theorem dX10_taken_32 : decode cX10_taken 32 = .ok (.aload_n 0, 1) := by decide +kernel
theorem dX10_taken_33 : decode cX10_taken 33 = .ok (.getfield 123, 3) := by decide +kernel
theorem dX10_taken_36 : decode cX10_taken 36 = .ok (.iload_n 1, 1) := by decide +kernel
theorem dX10_taken_37 : decode cX10_taken 37 = .ok (.iaload, 1) := by decide +kernel
theorem dX10_taken_38 : decode cX10_taken 38 = .ok (.ifCond .lt 35, 3) := by decide +kernel
theorem dX10_taken_41 : decode cX10_taken 41 = .ok (.aload_n 0, 1) := by decide +kernel
theorem dX10_taken_42 : decode cX10_taken 42 = .ok (.getfield 117, 3) := by decide +kernel
theorem dX10_taken_45 : decode cX10_taken 45 = .ok (.aload_n 0, 1) := by decide +kernel
theorem dX10_taken_46 : decode cX10_taken 46 = .ok (.getfield 123, 3) := by decide +kernel
theorem dX10_taken_49 : decode cX10_taken 49 = .ok (.iload_n 1, 1) := by decide +kernel
theorem dX10_taken_50 : decode cX10_taken 50 = .ok (.iaload, 1) := by decide +kernel
theorem dX10_taken_51 : decode cX10_taken 51 = .ok (.iaload, 1) := by decide +kernel
theorem dX10_taken_52 : decode cX10_taken 52 = .ok (.iload_n 2, 1) := by decide +kernel
theorem dX10_taken_53 : decode cX10_taken 53 = .ok (.invokestatic 395, 3) := by decide +kernel
theorem dX10_taken_56 : decode cX10_taken 56 = .ok (.ifCond .eq 17, 3) := by decide +kernel
theorem dX10_taken_59 : decode cX10_taken 59 = .ok (.aload_n 0, 1) := by decide +kernel
theorem dX10_taken_60 : decode cX10_taken 60 = .ok (.getfield 117, 3) := by decide +kernel
theorem dX10_taken_63 : decode cX10_taken 63 = .ok (.aload_n 0, 1) := by decide +kernel
theorem dX10_taken_64 : decode cX10_taken 64 = .ok (.getfield 123, 3) := by decide +kernel
theorem dX10_taken_67 : decode cX10_taken 67 = .ok (.iload_n 1, 1) := by decide +kernel
theorem dX10_taken_68 : decode cX10_taken 68 = .ok (.iaload, 1) := by decide +kernel
theorem dX10_taken_69 : decode cX10_taken 69 = .ok (.iaload, 1) := by decide +kernel
theorem dX10_taken_70 : decode cX10_taken 70 = .ok (.goto 5, 3) := by decide +kernel
theorem dX10_taken_73 : decode cX10_taken 73 = .ok (.bipush (-12), 2) := by decide +kernel
theorem dX10_taken_75 : decode cX10_taken 75 = .ok (.ireturn, 1) := by decide +kernel
