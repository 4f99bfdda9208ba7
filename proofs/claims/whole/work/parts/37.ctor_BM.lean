theorem d_BM_init_0 : decode c_BM_init 0 = .ok (.aload_n 0, 1) := by decide +kernel
theorem d_BM_init_1 : decode c_BM_init 1 = .ok (.invokespecial 3, 3) := by decide +kernel
theorem d_BM_init_4 : decode c_BM_init 4 = .ok (.aload_n 0, 1) := by decide +kernel
theorem d_BM_init_5 : decode c_BM_init 5 = .ok (.bipush 8, 2) := by decide +kernel
theorem d_BM_init_7 : decode c_BM_init 7 = .ok (.newarray .int, 2) := by decide +kernel
theorem d_BM_init_9 : decode c_BM_init 9 = .ok (.dup, 1) := by decide +kernel
theorem d_BM_init_10 : decode c_BM_init 10 = .ok (.iconst 0, 1) := by decide +kernel
theorem d_BM_init_11 : decode c_BM_init 11 = .ok (.iconst 0, 1) := by decide +kernel
theorem d_BM_init_12 : decode c_BM_init 12 = .ok (.iastore, 1) := by decide +kernel
theorem d_BM_init_13 : decode c_BM_init 13 = .ok (.dup, 1) := by decide +kernel
theorem d_BM_init_14 : decode c_BM_init 14 = .ok (.iconst 1, 1) := by decide +kernel
theorem d_BM_init_15 : decode c_BM_init 15 = .ok (.iconst 0, 1) := by decide +kernel
theorem d_BM_init_16 : decode c_BM_init 16 = .ok (.iastore, 1) := by decide +kernel
theorem d_BM_init_17 : decode c_BM_init 17 = .ok (.dup, 1) := by decide +kernel
theorem d_BM_init_18 : decode c_BM_init 18 = .ok (.iconst 2, 1) := by decide +kernel
theorem d_BM_init_19 : decode c_BM_init 19 = .ok (.iconst 0, 1) := by decide +kernel
theorem d_BM_init_20 : decode c_BM_init 20 = .ok (.iastore, 1) := by decide +kernel
theorem d_BM_init_21 : decode c_BM_init 21 = .ok (.dup, 1) := by decide +kernel
theorem d_BM_init_22 : decode c_BM_init 22 = .ok (.iconst 3, 1) := by decide +kernel
theorem d_BM_init_23 : decode c_BM_init 23 = .ok (.iconst 0, 1) := by decide +kernel
theorem d_BM_init_24 : decode c_BM_init 24 = .ok (.iastore, 1) := by decide +kernel
theorem d_BM_init_25 : decode c_BM_init 25 = .ok (.dup, 1) := by decide +kernel
theorem d_BM_init_26 : decode c_BM_init 26 = .ok (.iconst 4, 1) := by decide +kernel
theorem d_BM_init_27 : decode c_BM_init 27 = .ok (.iconst 0, 1) := by decide +kernel
theorem d_BM_init_28 : decode c_BM_init 28 = .ok (.iastore, 1) := by decide +kernel
theorem d_BM_init_29 : decode c_BM_init 29 = .ok (.dup, 1) := by decide +kernel
theorem d_BM_init_30 : decode c_BM_init 30 = .ok (.iconst 5, 1) := by decide +kernel
theorem d_BM_init_31 : decode c_BM_init 31 = .ok (.iconst 0, 1) := by decide +kernel
theorem d_BM_init_32 : decode c_BM_init 32 = .ok (.iastore, 1) := by decide +kernel
theorem d_BM_init_33 : decode c_BM_init 33 = .ok (.dup, 1) := by decide +kernel
theorem d_BM_init_34 : decode c_BM_init 34 = .ok (.bipush 6, 2) := by decide +kernel
theorem d_BM_init_36 : decode c_BM_init 36 = .ok (.iconst 0, 1) := by decide +kernel
theorem d_BM_init_37 : decode c_BM_init 37 = .ok (.iastore, 1) := by decide +kernel
theorem d_BM_init_38 : decode c_BM_init 38 = .ok (.dup, 1) := by decide +kernel
theorem d_BM_init_39 : decode c_BM_init 39 = .ok (.bipush 7, 2) := by decide +kernel
theorem d_BM_init_41 : decode c_BM_init 41 = .ok (.iconst (-1), 1) := by decide +kernel
theorem d_BM_init_42 : decode c_BM_init 42 = .ok (.iastore, 1) := by decide +kernel
theorem d_BM_init_43 : decode c_BM_init 43 = .ok (.putfield 9, 3) := by decide +kernel
theorem d_BM_init_46 : decode c_BM_init 46 = .ok (.aload_n 0, 1) := by decide +kernel
theorem d_BM_init_47 : decode c_BM_init 47 = .ok (.bipush 36, 2) := by decide +kernel
theorem d_BM_init_49 : decode c_BM_init 49 = .ok (.newarray .int, 2) := by decide +kernel
theorem d_BM_init_51 : decode c_BM_init 51 = .ok (.putfield 13, 3) := by decide +kernel
theorem d_BM_init_54 : decode c_BM_init 54 = .ok (.aload_n 0, 1) := by decide +kernel
theorem d_BM_init_55 : decode c_BM_init 55 = .ok (.iconst 3, 1) := by decide +kernel
theorem d_BM_init_56 : decode c_BM_init 56 = .ok (.newarray .int, 2) := by decide +kernel
theorem d_BM_init_58 : decode c_BM_init 58 = .ok (.putfield 16, 3) := by decide +kernel
theorem d_BM_init_61 : decode c_BM_init 61 = .ok (.aload_n 0, 1) := by decide +kernel
theorem d_BM_init_62 : decode c_BM_init 62 = .ok (.bipush 8, 2) := by decide +kernel
theorem d_BM_init_64 : decode c_BM_init 64 = .ok (.newarray .int, 2) := by decide +kernel
theorem d_BM_init_66 : decode c_BM_init 66 = .ok (.putfield 19, 3) := by decide +kernel
theorem d_BM_init_69 : decode c_BM_init 69 = .ok (.aload_n 0, 1) := by decide +kernel
theorem d_BM_init_70 : decode c_BM_init 70 = .ok (.bipush 8, 2) := by decide +kernel
theorem d_BM_init_72 : decode c_BM_init 72 = .ok (.newarray .int, 2) := by decide +kernel
theorem d_BM_init_74 : decode c_BM_init 74 = .ok (.putfield 22, 3) := by decide +kernel
theorem d_BM_init_77 : decode c_BM_init 77 = .ok (.aload_n 0, 1) := by decide +kernel
theorem d_BM_init_78 : decode c_BM_init 78 = .ok (.bipush 8, 2) := by decide +kernel
theorem d_BM_init_80 : decode c_BM_init 80 = .ok (.newarray .int, 2) := by decide +kernel
theorem d_BM_init_82 : decode c_BM_init 82 = .ok (.putfield 25, 3) := by decide +kernel
theorem d_BM_init_85 : decode c_BM_init 85 = .ok (.aload_n 0, 1) := by decide +kernel
theorem d_BM_init_86 : decode c_BM_init 86 = .ok (.bipush 8, 2) := by decide +kernel
theorem d_BM_init_88 : decode c_BM_init 88 = .ok (.newarray .int, 2) := by decide +kernel
theorem d_BM_init_90 : decode c_BM_init 90 = .ok (.putfield 28, 3) := by decide +kernel
theorem d_BM_init_93 : decode c_BM_init 93 = .ok (.aload_n 0, 1) := by decide +kernel
theorem d_BM_init_94 : decode c_BM_init 94 = .ok (.iconst 3, 1) := by decide +kernel
theorem d_BM_init_95 : decode c_BM_init 95 = .ok (.newarray .int, 2) := by decide +kernel
theorem d_BM_init_97 : decode c_BM_init 97 = .ok (.putfield 31, 3) := by decide +kernel
theorem d_BM_init_100 : decode c_BM_init 100 = .ok (.aload_n 0, 1) := by decide +kernel
theorem d_BM_init_101 : decode c_BM_init 101 = .ok (.bipush 36, 2) := by decide +kernel
theorem d_BM_init_103 : decode c_BM_init 103 = .ok (.newarray .int, 2) := by decide +kernel
theorem d_BM_init_105 : decode c_BM_init 105 = .ok (.putfield 34, 3) := by decide +kernel
theorem d_BM_init_108 : decode c_BM_init 108 = .ok (.aload_n 0, 1) := by decide +kernel
theorem d_BM_init_109 : decode c_BM_init 109 = .ok (.iconst 3, 1) := by decide +kernel
theorem d_BM_init_110 : decode c_BM_init 110 = .ok (.newarray .int, 2) := by decide +kernel
theorem d_BM_init_112 : decode c_BM_init 112 = .ok (.putfield 37, 3) := by decide +kernel
theorem d_BM_init_115 : decode c_BM_init 115 = .ok (.aload_n 0, 1) := by decide +kernel
theorem d_BM_init_116 : decode c_BM_init 116 = .ok (.bipush 8, 2) := by decide +kernel
theorem d_BM_init_118 : decode c_BM_init 118 = .ok (.putfield 40, 3) := by decide +kernel
theorem d_BM_init_121 : decode c_BM_init 121 = .ok (.aload_n 0, 1) := by decide +kernel
theorem d_BM_init_122 : decode c_BM_init 122 = .ok (.sipush 400, 3) := by decide +kernel
theorem d_BM_init_125 : decode c_BM_init 125 = .ok (.newarray .byte, 2) := by decide +kernel
theorem d_BM_init_127 : decode c_BM_init 127 = .ok (.putfield 44, 3) := by decide +kernel
theorem d_BM_init_130 : decode c_BM_init 130 = .ok (.aload_n 0, 1) := by decide +kernel
theorem d_BM_init_131 : decode c_BM_init 131 = .ok (.sipush 1800, 3) := by decide +kernel
theorem d_BM_init_134 : decode c_BM_init 134 = .ok (.newarray .int, 2) := by decide +kernel
theorem d_BM_init_136 : decode c_BM_init 136 = .ok (.putfield 48, 3) := by decide +kernel
theorem d_BM_init_139 : decode c_BM_init 139 = .ok (.aload_n 0, 1) := by decide +kernel
theorem d_BM_init_140 : decode c_BM_init 140 = .ok (.sipush 1800, 3) := by decide +kernel
theorem d_BM_init_143 : decode c_BM_init 143 = .ok (.newarray .int, 2) := by decide +kernel
theorem d_BM_init_145 : decode c_BM_init 145 = .ok (.putfield 51, 3) := by decide +kernel
theorem d_BM_init_148 : decode c_BM_init 148 = .ok (.aload_n 0, 1) := by decide +kernel
theorem d_BM_init_149 : decode c_BM_init 149 = .ok (.bipush 6, 2) := by decide +kernel
theorem d_BM_init_151 : decode c_BM_init 151 = .ok (.newarray .int, 2) := by decide +kernel
theorem d_BM_init_153 : decode c_BM_init 153 = .ok (.putfield 54, 3) := by decide +kernel
theorem d_BM_init_156 : decode c_BM_init 156 = .ok (.aload_n 0, 1) := by decide +kernel
theorem d_BM_init_157 : decode c_BM_init 157 = .ok (.bipush 72, 2) := by decide +kernel
theorem d_BM_init_159 : decode c_BM_init 159 = .ok (.newarray .int, 2) := by decide +kernel
theorem d_BM_init_161 : decode c_BM_init 161 = .ok (.putfield 57, 3) := by decide +kernel
theorem d_BM_init_164 : decode c_BM_init 164 = .ok (.aload_n 0, 1) := by decide +kernel
theorem d_BM_init_165 : decode c_BM_init 165 = .ok (.bipush 72, 2) := by decide +kernel
theorem d_BM_init_167 : decode c_BM_init 167 = .ok (.newarray .int, 2) := by decide +kernel
theorem d_BM_init_169 : decode c_BM_init 169 = .ok (.putfield 60, 3) := by decide +kernel
theorem d_BM_init_172 : decode c_BM_init 172 = .ok (.aload_n 0, 1) := by decide +kernel
theorem d_BM_init_173 : decode c_BM_init 173 = .ok (.bipush 72, 2) := by decide +kernel
theorem d_BM_init_175 : decode c_BM_init 175 = .ok (.newarray .int, 2) := by decide +kernel
theorem d_BM_init_177 : decode c_BM_init 177 = .ok (.putfield 63, 3) := by decide +kernel
theorem d_BM_init_180 : decode c_BM_init 180 = .ok (.aload_n 0, 1) := by decide +kernel
theorem d_BM_init_181 : decode c_BM_init 181 = .ok (.sipush 402, 3) := by decide +kernel
theorem d_BM_init_184 : decode c_BM_init 184 = .ok (.newarray .int, 2) := by decide +kernel
theorem d_BM_init_186 : decode c_BM_init 186 = .ok (.putfield 66, 3) := by decide +kernel
theorem d_BM_init_189 : decode c_BM_init 189 = .ok (.aload_n 0, 1) := by decide +kernel
theorem d_BM_init_190 : decode c_BM_init 190 = .ok (.bipush 8, 2) := by decide +kernel
theorem d_BM_init_192 : decode c_BM_init 192 = .ok (.newarray .long, 2) := by decide +kernel
theorem d_BM_init_194 : decode c_BM_init 194 = .ok (.putfield 69, 3) := by decide +kernel
theorem d_BM_init_197 : decode c_BM_init 197 = .ok (.aload_n 0, 1) := by decide +kernel
theorem d_BM_init_198 : decode c_BM_init 198 = .ok (.sipush 300, 3) := by decide +kernel
theorem d_BM_init_201 : decode c_BM_init 201 = .ok (.newarray .long, 2) := by decide +kernel
theorem d_BM_init_203 : decode c_BM_init 203 = .ok (.putfield 73, 3) := by decide +kernel
theorem d_BM_init_206 : decode c_BM_init 206 = .ok (.aload_n 0, 1) := by decide +kernel
theorem d_BM_init_207 : decode c_BM_init 207 = .ok (.iconst 3, 1) := by decide +kernel
theorem d_BM_init_208 : decode c_BM_init 208 = .ok (.newarray .int, 2) := by decide +kernel
theorem d_BM_init_210 : decode c_BM_init 210 = .ok (.putfield 76, 3) := by decide +kernel
theorem d_BM_init_213 : decode c_BM_init 213 = .ok (.aload_n 0, 1) := by decide +kernel
theorem d_BM_init_214 : decode c_BM_init 214 = .ok (.iconst 3, 1) := by decide +kernel
theorem d_BM_init_215 : decode c_BM_init 215 = .ok (.newarray .long, 2) := by decide +kernel
theorem d_BM_init_217 : decode c_BM_init 217 = .ok (.putfield 79, 3) := by decide +kernel
theorem d_BM_init_220 : decode c_BM_init 220 = .ok (.aload_n 0, 1) := by decide +kernel
theorem d_BM_init_221 : decode c_BM_init 221 = .ok (.iconst 3, 1) := by decide +kernel
theorem d_BM_init_222 : decode c_BM_init 222 = .ok (.newarray .int, 2) := by decide +kernel
theorem d_BM_init_224 : decode c_BM_init 224 = .ok (.putfield 82, 3) := by decide +kernel
theorem d_BM_init_227 : decode c_BM_init 227 = .ok (.aload_n 0, 1) := by decide +kernel
theorem d_BM_init_228 : decode c_BM_init 228 = .ok (.ldc 85, 2) := by decide +kernel
theorem d_BM_init_230 : decode c_BM_init 230 = .ok (.newarray .int, 2) := by decide +kernel
theorem d_BM_init_232 : decode c_BM_init 232 = .ok (.putfield 86, 3) := by decide +kernel
theorem d_BM_init_235 : decode c_BM_init 235 = .ok (.aload_n 0, 1) := by decide +kernel
theorem d_BM_init_236 : decode c_BM_init 236 = .ok (.sipush 4001, 3) := by decide +kernel
theorem d_BM_init_239 : decode c_BM_init 239 = .ok (.newarray .int, 2) := by decide +kernel
theorem d_BM_init_241 : decode c_BM_init 241 = .ok (.putfield 89, 3) := by decide +kernel
theorem d_BM_init_244 : decode c_BM_init 244 = .ok (.aload_n 0, 1) := by decide +kernel
theorem d_BM_init_245 : decode c_BM_init 245 = .ok (.sipush 4001, 3) := by decide +kernel
theorem d_BM_init_248 : decode c_BM_init 248 = .ok (.newarray .int, 2) := by decide +kernel
theorem d_BM_init_250 : decode c_BM_init 250 = .ok (.putfield 92, 3) := by decide +kernel
theorem d_BM_init_253 : decode c_BM_init 253 = .ok (.aload_n 0, 1) := by decide +kernel
theorem d_BM_init_254 : decode c_BM_init 254 = .ok (.sipush 4001, 3) := by decide +kernel
theorem d_BM_init_257 : decode c_BM_init 257 = .ok (.newarray .int, 2) := by decide +kernel
theorem d_BM_init_259 : decode c_BM_init 259 = .ok (.putfield 95, 3) := by decide +kernel
theorem d_BM_init_262 : decode c_BM_init 262 = .ok (.aload_n 0, 1) := by decide +kernel
theorem d_BM_init_263 : decode c_BM_init 263 = .ok (.iconst 3, 1) := by decide +kernel
theorem d_BM_init_264 : decode c_BM_init 264 = .ok (.newarray .int, 2) := by decide +kernel
theorem d_BM_init_266 : decode c_BM_init 266 = .ok (.putfield 98, 3) := by decide +kernel
theorem d_BM_init_269 : decode c_BM_init 269 = .ok (.aload_n 0, 1) := by decide +kernel
theorem d_BM_init_270 : decode c_BM_init 270 = .ok (.sipush 5776, 3) := by decide +kernel
theorem d_BM_init_273 : decode c_BM_init 273 = .ok (.newarray .int, 2) := by decide +kernel
theorem d_BM_init_275 : decode c_BM_init 275 = .ok (.putfield 101, 3) := by decide +kernel
theorem d_BM_init_278 : decode c_BM_init 278 = .ok (.aload_n 0, 1) := by decide +kernel
theorem d_BM_init_279 : decode c_BM_init 279 = .ok (.sipush 1444, 3) := by decide +kernel
theorem d_BM_init_282 : decode c_BM_init 282 = .ok (.newarray .int, 2) := by decide +kernel
theorem d_BM_init_284 : decode c_BM_init 284 = .ok (.putfield 104, 3) := by decide +kernel
theorem d_BM_init_287 : decode c_BM_init 287 = .ok (.aload_n 0, 1) := by decide +kernel
theorem d_BM_init_288 : decode c_BM_init 288 = .ok (.sipush 10108, 3) := by decide +kernel
theorem d_BM_init_291 : decode c_BM_init 291 = .ok (.newarray .int, 2) := by decide +kernel
theorem d_BM_init_293 : decode c_BM_init 293 = .ok (.putfield 107, 3) := by decide +kernel
theorem d_BM_init_296 : decode c_BM_init 296 = .ok (.aload_n 0, 1) := by decide +kernel
theorem d_BM_init_297 : decode c_BM_init 297 = .ok (.bipush 6, 2) := by decide +kernel
theorem d_BM_init_299 : decode c_BM_init 299 = .ok (.newarray .int, 2) := by decide +kernel
theorem d_BM_init_301 : decode c_BM_init 301 = .ok (.putfield 110, 3) := by decide +kernel
theorem d_BM_init_304 : decode c_BM_init 304 = .ok (.aload_n 0, 1) := by decide +kernel
theorem d_BM_init_305 : decode c_BM_init 305 = .ok (.sipush 1444, 3) := by decide +kernel
theorem d_BM_init_308 : decode c_BM_init 308 = .ok (.newarray .int, 2) := by decide +kernel
theorem d_BM_init_310 : decode c_BM_init 310 = .ok (.putfield 113, 3) := by decide +kernel
theorem d_BM_init_313 : decode c_BM_init 313 = .ok (.aload_n 0, 1) := by decide +kernel
theorem d_BM_init_314 : decode c_BM_init 314 = .ok (.iconst 3, 1) := by decide +kernel
theorem d_BM_init_315 : decode c_BM_init 315 = .ok (.newarray .int, 2) := by decide +kernel
theorem d_BM_init_317 : decode c_BM_init 317 = .ok (.putfield 116, 3) := by decide +kernel
theorem d_BM_init_320 : decode c_BM_init 320 = .ok (.aload_n 0, 1) := by decide +kernel
theorem d_BM_init_321 : decode c_BM_init 321 = .ok (.bipush 64, 2) := by decide +kernel
theorem d_BM_init_323 : decode c_BM_init 323 = .ok (.newarray .int, 2) := by decide +kernel
theorem d_BM_init_325 : decode c_BM_init 325 = .ok (.putfield 119, 3) := by decide +kernel
theorem d_BM_init_328 : decode c_BM_init 328 = .ok (.aload_n 0, 1) := by decide +kernel
theorem d_BM_init_329 : decode c_BM_init 329 = .ok (.iconst 3, 1) := by decide +kernel
theorem d_BM_init_330 : decode c_BM_init 330 = .ok (.newarray .long, 2) := by decide +kernel
theorem d_BM_init_332 : decode c_BM_init 332 = .ok (.putfield 122, 3) := by decide +kernel
theorem d_BM_init_335 : decode c_BM_init 335 = .ok (.aload_n 0, 1) := by decide +kernel
theorem d_BM_init_336 : decode c_BM_init 336 = .ok (.iconst 3, 1) := by decide +kernel
theorem d_BM_init_337 : decode c_BM_init 337 = .ok (.newarray .int, 2) := by decide +kernel
theorem d_BM_init_339 : decode c_BM_init 339 = .ok (.putfield 125, 3) := by decide +kernel
theorem d_BM_init_342 : decode c_BM_init 342 = .ok (.aload_n 0, 1) := by decide +kernel
theorem d_BM_init_343 : decode c_BM_init 343 = .ok (.bipush 27, 2) := by decide +kernel
theorem d_BM_init_345 : decode c_BM_init 345 = .ok (.newarray .int, 2) := by decide +kernel
theorem d_BM_init_347 : decode c_BM_init 347 = .ok (.putfield 128, 3) := by decide +kernel
theorem d_BM_init_350 : decode c_BM_init 350 = .ok (.aload_n 0, 1) := by decide +kernel
theorem d_BM_init_351 : decode c_BM_init 351 = .ok (.bipush 9, 2) := by decide +kernel
theorem d_BM_init_353 : decode c_BM_init 353 = .ok (.newarray .int, 2) := by decide +kernel
theorem d_BM_init_355 : decode c_BM_init 355 = .ok (.putfield 131, 3) := by decide +kernel
theorem d_BM_init_358 : decode c_BM_init 358 = .ok (.aload_n 0, 1) := by decide +kernel
theorem d_BM_init_359 : decode c_BM_init 359 = .ok (.bipush 9, 2) := by decide +kernel
theorem d_BM_init_361 : decode c_BM_init 361 = .ok (.newarray .boolean, 2) := by decide +kernel
theorem d_BM_init_363 : decode c_BM_init 363 = .ok (.putfield 134, 3) := by decide +kernel
theorem d_BM_init_366 : decode c_BM_init 366 = .ok (.aload_n 0, 1) := by decide +kernel
theorem d_BM_init_367 : decode c_BM_init 367 = .ok (.bipush 8, 2) := by decide +kernel
theorem d_BM_init_369 : decode c_BM_init 369 = .ok (.newarray .int, 2) := by decide +kernel
theorem d_BM_init_371 : decode c_BM_init 371 = .ok (.putfield 138, 3) := by decide +kernel
theorem d_BM_init_374 : decode c_BM_init 374 = .ok (.aload_n 0, 1) := by decide +kernel
theorem d_BM_init_375 : decode c_BM_init 375 = .ok (.bipush 8, 2) := by decide +kernel
theorem d_BM_init_377 : decode c_BM_init 377 = .ok (.newarray .int, 2) := by decide +kernel
theorem d_BM_init_379 : decode c_BM_init 379 = .ok (.putfield 141, 3) := by decide +kernel
theorem d_BM_init_382 : decode c_BM_init 382 = .ok (.aload_n 0, 1) := by decide +kernel
theorem d_BM_init_383 : decode c_BM_init 383 = .ok (.sipush 288, 3) := by decide +kernel
theorem d_BM_init_386 : decode c_BM_init 386 = .ok (.newarray .int, 2) := by decide +kernel
theorem d_BM_init_388 : decode c_BM_init 388 = .ok (.putfield 144, 3) := by decide +kernel
theorem d_BM_init_391 : decode c_BM_init 391 = .ok (.aload_n 0, 1) := by decide +kernel
theorem d_BM_init_392 : decode c_BM_init 392 = .ok (.bipush 24, 2) := by decide +kernel
theorem d_BM_init_394 : decode c_BM_init 394 = .ok (.newarray .int, 2) := by decide +kernel
theorem d_BM_init_396 : decode c_BM_init 396 = .ok (.putfield 147, 3) := by decide +kernel
theorem d_BM_init_399 : decode c_BM_init 399 = .ok (.aload_n 0, 1) := by decide +kernel
theorem d_BM_init_400 : decode c_BM_init 400 = .ok (.bipush 8, 2) := by decide +kernel
theorem d_BM_init_402 : decode c_BM_init 402 = .ok (.newarray .int, 2) := by decide +kernel
theorem d_BM_init_404 : decode c_BM_init 404 = .ok (.putfield 150, 3) := by decide +kernel
theorem d_BM_init_407 : decode c_BM_init 407 = .ok (.aload_n 0, 1) := by decide +kernel
theorem d_BM_init_408 : decode c_BM_init 408 = .ok (.sipush 360, 3) := by decide +kernel
theorem d_BM_init_411 : decode c_BM_init 411 = .ok (.newarray .int, 2) := by decide +kernel
theorem d_BM_init_413 : decode c_BM_init 413 = .ok (.putfield 153, 3) := by decide +kernel
theorem d_BM_init_416 : decode c_BM_init 416 = .ok (.aload_n 0, 1) := by decide +kernel
theorem d_BM_init_417 : decode c_BM_init 417 = .ok (.iconst 4, 1) := by decide +kernel
theorem d_BM_init_418 : decode c_BM_init 418 = .ok (.newarray .boolean, 2) := by decide +kernel
theorem d_BM_init_420 : decode c_BM_init 420 = .ok (.putfield 156, 3) := by decide +kernel
theorem d_BM_init_423 : decode c_BM_init 423 = .ok (.return_, 1) := by decide +kernel
def RT_BM_init_0 (_ : Nat) : List Sh := []
def RT_BM_init_1 (L : Nat) : List Sh := (RT_BM_init_0 L) ++ [.inr (0, 8, [])]
def RT_BM_init_2 (L : Nat) : List Sh := (RT_BM_init_1 L) ++ [.inr (0, 36, [])]
def RT_BM_init_3 (L : Nat) : List Sh := (RT_BM_init_2 L) ++ [.inr (0, 3, [])]
def RT_BM_init_4 (L : Nat) : List Sh := (RT_BM_init_3 L) ++ [.inr (0, 8, [])]
def RT_BM_init_5 (L : Nat) : List Sh := (RT_BM_init_4 L) ++ [.inr (0, 8, [])]
def RT_BM_init_6 (L : Nat) : List Sh := (RT_BM_init_5 L) ++ [.inr (0, 8, [])]
def RT_BM_init_7 (L : Nat) : List Sh := (RT_BM_init_6 L) ++ [.inr (0, 8, [])]
def RT_BM_init_8 (L : Nat) : List Sh := (RT_BM_init_7 L) ++ [.inr (0, 3, [])]
def RT_BM_init_9 (L : Nat) : List Sh := (RT_BM_init_8 L) ++ [.inr (0, 36, [])]
def RT_BM_init_10 (L : Nat) : List Sh := (RT_BM_init_9 L) ++ [.inr (0, 3, [])]
def RT_BM_init_11 (L : Nat) : List Sh := (RT_BM_init_10 L) ++ [.inr (2, 400, [])]
def RT_BM_init_12 (L : Nat) : List Sh := (RT_BM_init_11 L) ++ [.inr (0, 1800, [])]
def RT_BM_init_13 (L : Nat) : List Sh := (RT_BM_init_12 L) ++ [.inr (0, 1800, [])]
def RT_BM_init_14 (L : Nat) : List Sh := (RT_BM_init_13 L) ++ [.inr (0, 6, [])]
def RT_BM_init_15 (L : Nat) : List Sh := (RT_BM_init_14 L) ++ [.inr (0, 72, [])]
def RT_BM_init_16 (L : Nat) : List Sh := (RT_BM_init_15 L) ++ [.inr (0, 72, [])]
def RT_BM_init_17 (L : Nat) : List Sh := (RT_BM_init_16 L) ++ [.inr (0, 72, [])]
def RT_BM_init_18 (L : Nat) : List Sh := (RT_BM_init_17 L) ++ [.inr (0, 402, [])]
def RT_BM_init_19 (L : Nat) : List Sh := (RT_BM_init_18 L) ++ [.inr (1, 8, [])]
def RT_BM_init_20 (L : Nat) : List Sh := (RT_BM_init_19 L) ++ [.inr (1, 300, [])]
def RT_BM_init_21 (L : Nat) : List Sh := (RT_BM_init_20 L) ++ [.inr (0, 3, [])]
def RT_BM_init_22 (L : Nat) : List Sh := (RT_BM_init_21 L) ++ [.inr (1, 3, [])]
def RT_BM_init_23 (L : Nat) : List Sh := (RT_BM_init_22 L) ++ [.inr (0, 3, [])]
def RT_BM_init_24 (L : Nat) : List Sh := (RT_BM_init_23 L) ++ [.inr (0, 54872, [])]
def RT_BM_init_25 (L : Nat) : List Sh := (RT_BM_init_24 L) ++ [.inr (0, 4001, [])]
def RT_BM_init_26 (L : Nat) : List Sh := (RT_BM_init_25 L) ++ [.inr (0, 4001, [])]
def RT_BM_init_27 (L : Nat) : List Sh := (RT_BM_init_26 L) ++ [.inr (0, 4001, [])]
def RT_BM_init_28 (L : Nat) : List Sh := (RT_BM_init_27 L) ++ [.inr (0, 3, [])]
def RT_BM_init_29 (L : Nat) : List Sh := (RT_BM_init_28 L) ++ [.inr (0, 5776, [])]
def RT_BM_init_30 (L : Nat) : List Sh := (RT_BM_init_29 L) ++ [.inr (0, 1444, [])]
def RT_BM_init_31 (L : Nat) : List Sh := (RT_BM_init_30 L) ++ [.inr (0, 10108, [])]
def RT_BM_init_32 (L : Nat) : List Sh := (RT_BM_init_31 L) ++ [.inr (0, 6, [])]
def RT_BM_init_33 (L : Nat) : List Sh := (RT_BM_init_32 L) ++ [.inr (0, 1444, [])]
def RT_BM_init_34 (L : Nat) : List Sh := (RT_BM_init_33 L) ++ [.inr (0, 3, [])]
def RT_BM_init_35 (L : Nat) : List Sh := (RT_BM_init_34 L) ++ [.inr (0, 64, [])]
def RT_BM_init_36 (L : Nat) : List Sh := (RT_BM_init_35 L) ++ [.inr (1, 3, [])]
def RT_BM_init_37 (L : Nat) : List Sh := (RT_BM_init_36 L) ++ [.inr (0, 3, [])]
def RT_BM_init_38 (L : Nat) : List Sh := (RT_BM_init_37 L) ++ [.inr (0, 27, [])]
def RT_BM_init_39 (L : Nat) : List Sh := (RT_BM_init_38 L) ++ [.inr (0, 9, [])]
def RT_BM_init_40 (L : Nat) : List Sh := (RT_BM_init_39 L) ++ [.inr (3, 9, [])]
def RT_BM_init_41 (L : Nat) : List Sh := (RT_BM_init_40 L) ++ [.inr (0, 8, [])]
def RT_BM_init_42 (L : Nat) : List Sh := (RT_BM_init_41 L) ++ [.inr (0, 8, [])]
def RT_BM_init_43 (L : Nat) : List Sh := (RT_BM_init_42 L) ++ [.inr (0, 288, [])]
def RT_BM_init_44 (L : Nat) : List Sh := (RT_BM_init_43 L) ++ [.inr (0, 24, [])]
def RT_BM_init_45 (L : Nat) : List Sh := (RT_BM_init_44 L) ++ [.inr (0, 8, [])]
def RT_BM_init_46 (L : Nat) : List Sh := (RT_BM_init_45 L) ++ [.inr (0, 360, [])]
def RT_BM_init_47 (L : Nat) : List Sh := (RT_BM_init_46 L) ++ [.inr (3, 4, [])]
def F_BM_init (σ : St) (L : Nat) : St := sfi (sai (sai (sai (sai (sai (sai (sai (sai (σ) (L + 1) 0 (0 : Int32)) (L + 1) 1 (0 : Int32)) (L + 1) 2 (0 : Int32)) (L + 1) 3 (0 : Int32)) (L + 1) 4 (0 : Int32)) (L + 1) 5 (0 : Int32)) (L + 1) 6 (0 : Int32)) (L + 1) 7 (-1 : Int32)) L 20 (8 : Int32)
def RB_BM_init (L : Nat) : List Sh := (.inl (12, [(0, 0), (2, (L + 1)), (2, (L + 2)), (2, (L + 3)), (2, (L + 4)), (2, (L + 5)), (2, (L + 6)), (2, (L + 7)), (2, (L + 8)), (2, (L + 9)), (2, (L + 10)), (0, 0), (0, 0), (0, 0), (0, 0), (0, 0), (0, 0), (0, 0), (0, 0), (0, 0), (0, 0), (0, 0), (2, (L + 11)), (2, (L + 12)), (2, (L + 13)), (2, (L + 14)), (2, (L + 15)), (2, (L + 16)), (2, (L + 17)), (2, (L + 18)), (2, (L + 19)), (2, (L + 20)), (0, 0), (2, (L + 21)), (2, (L + 22)), (0, 0), (0, 0), (2, (L + 23)), (0, 0), (0, 0), (2, (L + 24)), (2, (L + 25)), (2, (L + 26)), (2, (L + 27)), (0, 0), (0, 0), (0, 0), (2, (L + 28)), (2, (L + 29)), (2, (L + 30)), (2, (L + 31)), (2, (L + 32)), (0, 0), (0, 0), (0, 0), (0, 0), (2, (L + 33)), (2, (L + 34)), (2, (L + 35)), (2, (L + 36)), (0, 0), (2, (L + 37)), (2, (L + 38)), (2, (L + 39)), (2, (L + 40)), (0, 0), (0, 0), (2, (L + 41)), (2, (L + 42)), (2, (L + 43)), (2, (L + 44)), (2, (L + 45)), (2, (L + 46)), (2, (L + 47)), (0, 0), (0, 0)])) :: (RT_BM_init_47 L)
set_option maxRecDepth 20000 in
set_option maxHeartbeats 40000000 in
theorem cc_BM_init {g : Gx} {P : List Sh} {L : Nat} {σ : St} (hL : P.length = L) (hz : ∀ i, L < i → zro σ i) : Cx g m_BM_init [.ref (gB g + L)] (P ++ [.inl (12, [(0, 0), (3, 0), (3, 0), (3, 0), (3, 0), (3, 0), (3, 0), (3, 0), (3, 0), (3, 0), (3, 0), (0, 0), (0, 0), (0, 0), (0, 0), (0, 0), (0, 0), (0, 0), (0, 0), (0, 0), (0, 0), (0, 0), (3, 0), (3, 0), (3, 0), (3, 0), (3, 0), (3, 0), (3, 0), (3, 0), (3, 0), (3, 0), (0, 0), (3, 0), (3, 0), (0, 0), (0, 0), (3, 0), (0, 0), (0, 0), (3, 0), (3, 0), (3, 0), (3, 0), (0, 0), (0, 0), (0, 0), (3, 0), (3, 0), (3, 0), (3, 0), (3, 0), (0, 0), (0, 0), (0, 0), (0, 0), (3, 0), (3, 0), (3, 0), (3, 0), (0, 0), (3, 0), (3, 0), (3, 0), (3, 0), (0, 0), (0, 0), (3, 0), (3, 0), (3, 0), (3, 0), (3, 0), (3, 0), (3, 0), (0, 0), (0, 0)])]) σ 47 91536 (fun r sh σ' => r = none ∧ sh = P ++ RB_BM_init L ∧ σ' = F_BM_init σ L) := by
  refine Cx.of (show plainName "BallBoxModel" = true by decide) (Nat.le_of_ble_eq_true rfl) ?_
  obtain ⟨T0, hT0⟩ : ∃ y : List Sh, y = [] := ⟨_, rfl⟩
  have hm0 : T0.length + 1 = 1 := by rw [hT0]; rfl
  have e0 : P ++ [.inl (12, [(0, 0), (3, 0), (3, 0), (3, 0), (3, 0), (3, 0), (3, 0), (3, 0), (3, 0), (3, 0), (3, 0), (0, 0), (0, 0), (0, 0), (0, 0), (0, 0), (0, 0), (0, 0), (0, 0), (0, 0), (0, 0), (0, 0), (3, 0), (3, 0), (3, 0), (3, 0), (3, 0), (3, 0), (3, 0), (3, 0), (3, 0), (3, 0), (0, 0), (3, 0), (3, 0), (0, 0), (0, 0), (3, 0), (0, 0), (0, 0), (3, 0), (3, 0), (3, 0), (3, 0), (0, 0), (0, 0), (0, 0), (3, 0), (3, 0), (3, 0), (3, 0), (3, 0), (0, 0), (0, 0), (0, 0), (0, 0), (3, 0), (3, 0), (3, 0), (3, 0), (0, 0), (3, 0), (3, 0), (3, 0), (3, 0), (0, 0), (0, 0), (3, 0), (3, 0), (3, 0), (3, 0), (3, 0), (3, 0), (3, 0), (0, 0), (0, 0)])] = P ++ (.inl (12, [(0, 0), (3, 0), (3, 0), (3, 0), (3, 0), (3, 0), (3, 0), (3, 0), (3, 0), (3, 0), (3, 0), (0, 0), (0, 0), (0, 0), (0, 0), (0, 0), (0, 0), (0, 0), (0, 0), (0, 0), (0, 0), (0, 0), (3, 0), (3, 0), (3, 0), (3, 0), (3, 0), (3, 0), (3, 0), (3, 0), (3, 0), (3, 0), (0, 0), (3, 0), (3, 0), (0, 0), (0, 0), (3, 0), (0, 0), (0, 0), (3, 0), (3, 0), (3, 0), (3, 0), (0, 0), (0, 0), (0, 0), (3, 0), (3, 0), (3, 0), (3, 0), (3, 0), (0, 0), (0, 0), (0, 0), (0, 0), (3, 0), (3, 0), (3, 0), (3, 0), (0, 0), (3, 0), (3, 0), (3, 0), (3, 0), (0, 0), (0, 0), (3, 0), (3, 0), (3, 0), (3, 0), (3, 0), (3, 0), (3, 0), (0, 0), (0, 0)])) :: T0 := by rw [hT0]
  rw [show lv_args 0 [.ref (gB g + L)] = [(0, .ref (gB g + L))] from rfl]
  have key : Ax g m_BM_init 47 91536 (Zx g ((P ++ [Sum.inl (12, [(0, 0), (3, 0), (3, 0), (3, 0), (3, 0), (3, 0), (3, 0), (3, 0), (3, 0), (3, 0), (3, 0), (0, 0), (0, 0), (0, 0), (0, 0), (0, 0), (0, 0), (0, 0), (0, 0), (0, 0), (0, 0), (0, 0), (3, 0), (3, 0), (3, 0), (3, 0), (3, 0), (3, 0), (3, 0), (3, 0), (3, 0), (3, 0), (0, 0), (3, 0), (3, 0), (0, 0), (0, 0), (3, 0), (0, 0), (0, 0), (3, 0), (3, 0), (3, 0), (3, 0), (0, 0), (0, 0), (0, 0), (3, 0), (3, 0), (3, 0), (3, 0), (3, 0), (0, 0), (0, 0), (0, 0), (0, 0), (3, 0), (3, 0), (3, 0), (3, 0), (0, 0), (3, 0), (3, 0), (3, 0), (3, 0), (0, 0), (0, 0), (3, 0), (3, 0), (3, 0), (3, 0), (3, 0), (3, 0), (3, 0), (0, 0), (0, 0)])]).length + 47) 47 91536 (fun r sh σ' => r = none ∧ sh = P ++ RB_BM_init L ∧ σ' = F_BM_init σ L)) (P ++ (.inl (12, [(0, 0), (3, 0), (3, 0), (3, 0), (3, 0), (3, 0), (3, 0), (3, 0), (3, 0), (3, 0), (3, 0), (0, 0), (0, 0), (0, 0), (0, 0), (0, 0), (0, 0), (0, 0), (0, 0), (0, 0), (0, 0), (0, 0), (3, 0), (3, 0), (3, 0), (3, 0), (3, 0), (3, 0), (3, 0), (3, 0), (3, 0), (3, 0), (0, 0), (3, 0), (3, 0), (0, 0), (0, 0), (3, 0), (0, 0), (0, 0), (3, 0), (3, 0), (3, 0), (3, 0), (0, 0), (0, 0), (0, 0), (3, 0), (3, 0), (3, 0), (3, 0), (3, 0), (0, 0), (0, 0), (0, 0), (0, 0), (3, 0), (3, 0), (3, 0), (3, 0), (0, 0), (3, 0), (3, 0), (3, 0), (3, 0), (0, 0), (0, 0), (3, 0), (3, 0), (3, 0), (3, 0), (3, 0), (3, 0), (3, 0), (0, 0), (0, 0)])) :: T0) σ 0 0 0 [(0, .ref (gB g + L))] [] := by
    have eT0 : T0 = RT_BM_init_0 L := hT0
    have hz0 : ∀ i, L + 1 ≤ i → zro σ i := fun i hi => hz i (by omega)
    refine a_aload_n (pc := 0) 0 rfl rfl d_BM_init_0 ?_
    refine a_objI (pc := 1) tw1248 tw28 tw29 (by decide) (Nat.le_of_ble_eq_true rfl) d_BM_init_1 ?_
    refine a_aload_n (pc := 4) 0 rfl rfl d_BM_init_4 ?_
    refine a_bipush (pc := 5) (8 : Int32) (by decide) d_BM_init_5 ?_
    refine a_newi (pc := 7) (atype := .int) (kd := 0) (N := 8) rfl (Or.inl ⟨rfl, rfl⟩) tw54 (by rw [(pb_n hL hm0)]; exact hz0 _ (by omega)) (by decide) (by decide) (by decide) (Nat.le_of_ble_eq_true rfl) (Nat.le_of_ble_eq_true rfl) d_BM_init_7 ?_
    rw [(pb_n hL hm0), pb_push]
    show Ax g m_BM_init 47 91536 _ (P ++ (.inl (12, [(0, 0), (3, 0), (3, 0), (3, 0), (3, 0), (3, 0), (3, 0), (3, 0), (3, 0), (3, 0), (3, 0), (0, 0), (0, 0), (0, 0), (0, 0), (0, 0), (0, 0), (0, 0), (0, 0), (0, 0), (0, 0), (0, 0), (3, 0), (3, 0), (3, 0), (3, 0), (3, 0), (3, 0), (3, 0), (3, 0), (3, 0), (3, 0), (0, 0), (3, 0), (3, 0), (0, 0), (0, 0), (3, 0), (0, 0), (0, 0), (3, 0), (3, 0), (3, 0), (3, 0), (0, 0), (0, 0), (0, 0), (3, 0), (3, 0), (3, 0), (3, 0), (3, 0), (0, 0), (0, 0), (0, 0), (0, 0), (3, 0), (3, 0), (3, 0), (3, 0), (0, 0), (3, 0), (3, 0), (3, 0), (3, 0), (0, 0), (0, 0), (3, 0), (3, 0), (3, 0), (3, 0), (3, 0), (3, 0), (3, 0), (0, 0), (0, 0)])) :: (T0 ++ [.inr (0, 8, [])])) σ 1 8 9 [(0, .ref (gB g + L))] [.ref (gB g + (L + 1)), .ref (gB g + L)]
    obtain ⟨T1, hT1⟩ : ∃ y : List Sh, y = T0 ++ [.inr (0, 8, [])] := ⟨_, rfl⟩
    have hm1 : T1.length + 1 = 2 := by rw [hT1, List.length_append]; have := hm0; simp only [List.length_cons, List.length_nil]; omega
    have f1_0 : T1[0]? = some (.inr (0, 8, [])) := by rw [hT1, List.getElem?_append_right (by have := hm0; omega), show 0 - T0.length = 0 by have := hm0; omega]; rfl
    have eT1 : T1 = RT_BM_init_1 L := by rw [hT1, eT0]; rfl
    rw [← hT1]
    refine a_dup (pc := 9) rfl d_BM_init_9 ?_
    refine a_iconst (pc := 10) (0 : Int32) (by decide) d_BM_init_10 ?_
    refine a_iconst (pc := 11) (0 : Int32) (by decide) d_BM_init_11 ?_
    refine a_iast (pc := 12) (i := L + 1) (pb_t hL f1_0) (vp_in_nI (n := 0) (N := 8) (by decide) (by decide)) d_BM_init_12 ?_
    refine a_nms (fun s1 hs1 => ?_)
    have hz1 : ∀ i, L + 2 ≤ i → zro s1 i := fun i hi => by rw [hs1]; exact zro_sai (by omega) (hz0 i (by omega))
    show Ax g m_BM_init 47 91536 _ (P ++ (.inl (12, [(0, 0), (3, 0), (3, 0), (3, 0), (3, 0), (3, 0), (3, 0), (3, 0), (3, 0), (3, 0), (3, 0), (0, 0), (0, 0), (0, 0), (0, 0), (0, 0), (0, 0), (0, 0), (0, 0), (0, 0), (0, 0), (0, 0), (3, 0), (3, 0), (3, 0), (3, 0), (3, 0), (3, 0), (3, 0), (3, 0), (3, 0), (3, 0), (0, 0), (3, 0), (3, 0), (0, 0), (0, 0), (3, 0), (0, 0), (0, 0), (3, 0), (3, 0), (3, 0), (3, 0), (0, 0), (0, 0), (0, 0), (3, 0), (3, 0), (3, 0), (3, 0), (3, 0), (0, 0), (0, 0), (0, 0), (0, 0), (3, 0), (3, 0), (3, 0), (3, 0), (0, 0), (3, 0), (3, 0), (3, 0), (3, 0), (0, 0), (0, 0), (3, 0), (3, 0), (3, 0), (3, 0), (3, 0), (3, 0), (3, 0), (0, 0), (0, 0)])) :: T1) s1 1 8 13 [(0, .ref (gB g + L))] [.ref (gB g + (L + 1)), .ref (gB g + L)]
    refine a_dup (pc := 13) rfl d_BM_init_13 ?_
    refine a_iconst (pc := 14) (1 : Int32) (by decide) d_BM_init_14 ?_
    refine a_iconst (pc := 15) (0 : Int32) (by decide) d_BM_init_15 ?_
    refine a_iast (pc := 16) (i := L + 1) (pb_t hL f1_0) (vp_in_nI (n := 1) (N := 8) (by decide) (by decide)) d_BM_init_16 ?_
    refine a_nms (fun s2 hs2 => ?_)
    have hz2 : ∀ i, L + 2 ≤ i → zro s2 i := fun i hi => by rw [hs2]; exact zro_sai (by omega) (hz1 i (by omega))
    show Ax g m_BM_init 47 91536 _ (P ++ (.inl (12, [(0, 0), (3, 0), (3, 0), (3, 0), (3, 0), (3, 0), (3, 0), (3, 0), (3, 0), (3, 0), (3, 0), (0, 0), (0, 0), (0, 0), (0, 0), (0, 0), (0, 0), (0, 0), (0, 0), (0, 0), (0, 0), (0, 0), (3, 0), (3, 0), (3, 0), (3, 0), (3, 0), (3, 0), (3, 0), (3, 0), (3, 0), (3, 0), (0, 0), (3, 0), (3, 0), (0, 0), (0, 0), (3, 0), (0, 0), (0, 0), (3, 0), (3, 0), (3, 0), (3, 0), (0, 0), (0, 0), (0, 0), (3, 0), (3, 0), (3, 0), (3, 0), (3, 0), (0, 0), (0, 0), (0, 0), (0, 0), (3, 0), (3, 0), (3, 0), (3, 0), (0, 0), (3, 0), (3, 0), (3, 0), (3, 0), (0, 0), (0, 0), (3, 0), (3, 0), (3, 0), (3, 0), (3, 0), (3, 0), (3, 0), (0, 0), (0, 0)])) :: T1) s2 1 8 17 [(0, .ref (gB g + L))] [.ref (gB g + (L + 1)), .ref (gB g + L)]
    refine a_dup (pc := 17) rfl d_BM_init_17 ?_
    refine a_iconst (pc := 18) (2 : Int32) (by decide) d_BM_init_18 ?_
    refine a_iconst (pc := 19) (0 : Int32) (by decide) d_BM_init_19 ?_
    refine a_iast (pc := 20) (i := L + 1) (pb_t hL f1_0) (vp_in_nI (n := 2) (N := 8) (by decide) (by decide)) d_BM_init_20 ?_
    refine a_nms (fun s3 hs3 => ?_)
    have hz3 : ∀ i, L + 2 ≤ i → zro s3 i := fun i hi => by rw [hs3]; exact zro_sai (by omega) (hz2 i (by omega))
    show Ax g m_BM_init 47 91536 _ (P ++ (.inl (12, [(0, 0), (3, 0), (3, 0), (3, 0), (3, 0), (3, 0), (3, 0), (3, 0), (3, 0), (3, 0), (3, 0), (0, 0), (0, 0), (0, 0), (0, 0), (0, 0), (0, 0), (0, 0), (0, 0), (0, 0), (0, 0), (0, 0), (3, 0), (3, 0), (3, 0), (3, 0), (3, 0), (3, 0), (3, 0), (3, 0), (3, 0), (3, 0), (0, 0), (3, 0), (3, 0), (0, 0), (0, 0), (3, 0), (0, 0), (0, 0), (3, 0), (3, 0), (3, 0), (3, 0), (0, 0), (0, 0), (0, 0), (3, 0), (3, 0), (3, 0), (3, 0), (3, 0), (0, 0), (0, 0), (0, 0), (0, 0), (3, 0), (3, 0), (3, 0), (3, 0), (0, 0), (3, 0), (3, 0), (3, 0), (3, 0), (0, 0), (0, 0), (3, 0), (3, 0), (3, 0), (3, 0), (3, 0), (3, 0), (3, 0), (0, 0), (0, 0)])) :: T1) s3 1 8 21 [(0, .ref (gB g + L))] [.ref (gB g + (L + 1)), .ref (gB g + L)]
    refine a_dup (pc := 21) rfl d_BM_init_21 ?_
    refine a_iconst (pc := 22) (3 : Int32) (by decide) d_BM_init_22 ?_
    refine a_iconst (pc := 23) (0 : Int32) (by decide) d_BM_init_23 ?_
    refine a_iast (pc := 24) (i := L + 1) (pb_t hL f1_0) (vp_in_nI (n := 3) (N := 8) (by decide) (by decide)) d_BM_init_24 ?_
    refine a_nms (fun s4 hs4 => ?_)
    have hz4 : ∀ i, L + 2 ≤ i → zro s4 i := fun i hi => by rw [hs4]; exact zro_sai (by omega) (hz3 i (by omega))
    show Ax g m_BM_init 47 91536 _ (P ++ (.inl (12, [(0, 0), (3, 0), (3, 0), (3, 0), (3, 0), (3, 0), (3, 0), (3, 0), (3, 0), (3, 0), (3, 0), (0, 0), (0, 0), (0, 0), (0, 0), (0, 0), (0, 0), (0, 0), (0, 0), (0, 0), (0, 0), (0, 0), (3, 0), (3, 0), (3, 0), (3, 0), (3, 0), (3, 0), (3, 0), (3, 0), (3, 0), (3, 0), (0, 0), (3, 0), (3, 0), (0, 0), (0, 0), (3, 0), (0, 0), (0, 0), (3, 0), (3, 0), (3, 0), (3, 0), (0, 0), (0, 0), (0, 0), (3, 0), (3, 0), (3, 0), (3, 0), (3, 0), (0, 0), (0, 0), (0, 0), (0, 0), (3, 0), (3, 0), (3, 0), (3, 0), (0, 0), (3, 0), (3, 0), (3, 0), (3, 0), (0, 0), (0, 0), (3, 0), (3, 0), (3, 0), (3, 0), (3, 0), (3, 0), (3, 0), (0, 0), (0, 0)])) :: T1) s4 1 8 25 [(0, .ref (gB g + L))] [.ref (gB g + (L + 1)), .ref (gB g + L)]
    refine a_dup (pc := 25) rfl d_BM_init_25 ?_
    refine a_iconst (pc := 26) (4 : Int32) (by decide) d_BM_init_26 ?_
    refine a_iconst (pc := 27) (0 : Int32) (by decide) d_BM_init_27 ?_
    refine a_iast (pc := 28) (i := L + 1) (pb_t hL f1_0) (vp_in_nI (n := 4) (N := 8) (by decide) (by decide)) d_BM_init_28 ?_
    refine a_nms (fun s5 hs5 => ?_)
    have hz5 : ∀ i, L + 2 ≤ i → zro s5 i := fun i hi => by rw [hs5]; exact zro_sai (by omega) (hz4 i (by omega))
    show Ax g m_BM_init 47 91536 _ (P ++ (.inl (12, [(0, 0), (3, 0), (3, 0), (3, 0), (3, 0), (3, 0), (3, 0), (3, 0), (3, 0), (3, 0), (3, 0), (0, 0), (0, 0), (0, 0), (0, 0), (0, 0), (0, 0), (0, 0), (0, 0), (0, 0), (0, 0), (0, 0), (3, 0), (3, 0), (3, 0), (3, 0), (3, 0), (3, 0), (3, 0), (3, 0), (3, 0), (3, 0), (0, 0), (3, 0), (3, 0), (0, 0), (0, 0), (3, 0), (0, 0), (0, 0), (3, 0), (3, 0), (3, 0), (3, 0), (0, 0), (0, 0), (0, 0), (3, 0), (3, 0), (3, 0), (3, 0), (3, 0), (0, 0), (0, 0), (0, 0), (0, 0), (3, 0), (3, 0), (3, 0), (3, 0), (0, 0), (3, 0), (3, 0), (3, 0), (3, 0), (0, 0), (0, 0), (3, 0), (3, 0), (3, 0), (3, 0), (3, 0), (3, 0), (3, 0), (0, 0), (0, 0)])) :: T1) s5 1 8 29 [(0, .ref (gB g + L))] [.ref (gB g + (L + 1)), .ref (gB g + L)]
    refine a_dup (pc := 29) rfl d_BM_init_29 ?_
    refine a_iconst (pc := 30) (5 : Int32) (by decide) d_BM_init_30 ?_
    refine a_iconst (pc := 31) (0 : Int32) (by decide) d_BM_init_31 ?_
    refine a_iast (pc := 32) (i := L + 1) (pb_t hL f1_0) (vp_in_nI (n := 5) (N := 8) (by decide) (by decide)) d_BM_init_32 ?_
    refine a_nms (fun s6 hs6 => ?_)
    have hz6 : ∀ i, L + 2 ≤ i → zro s6 i := fun i hi => by rw [hs6]; exact zro_sai (by omega) (hz5 i (by omega))
    show Ax g m_BM_init 47 91536 _ (P ++ (.inl (12, [(0, 0), (3, 0), (3, 0), (3, 0), (3, 0), (3, 0), (3, 0), (3, 0), (3, 0), (3, 0), (3, 0), (0, 0), (0, 0), (0, 0), (0, 0), (0, 0), (0, 0), (0, 0), (0, 0), (0, 0), (0, 0), (0, 0), (3, 0), (3, 0), (3, 0), (3, 0), (3, 0), (3, 0), (3, 0), (3, 0), (3, 0), (3, 0), (0, 0), (3, 0), (3, 0), (0, 0), (0, 0), (3, 0), (0, 0), (0, 0), (3, 0), (3, 0), (3, 0), (3, 0), (0, 0), (0, 0), (0, 0), (3, 0), (3, 0), (3, 0), (3, 0), (3, 0), (0, 0), (0, 0), (0, 0), (0, 0), (3, 0), (3, 0), (3, 0), (3, 0), (0, 0), (3, 0), (3, 0), (3, 0), (3, 0), (0, 0), (0, 0), (3, 0), (3, 0), (3, 0), (3, 0), (3, 0), (3, 0), (3, 0), (0, 0), (0, 0)])) :: T1) s6 1 8 33 [(0, .ref (gB g + L))] [.ref (gB g + (L + 1)), .ref (gB g + L)]
    refine a_dup (pc := 33) rfl d_BM_init_33 ?_
    refine a_bipush (pc := 34) (6 : Int32) (by decide) d_BM_init_34 ?_
    refine a_iconst (pc := 36) (0 : Int32) (by decide) d_BM_init_36 ?_
    refine a_iast (pc := 37) (i := L + 1) (pb_t hL f1_0) (vp_in_nI (n := 6) (N := 8) (by decide) (by decide)) d_BM_init_37 ?_
    refine a_nms (fun s7 hs7 => ?_)
    have hz7 : ∀ i, L + 2 ≤ i → zro s7 i := fun i hi => by rw [hs7]; exact zro_sai (by omega) (hz6 i (by omega))
    show Ax g m_BM_init 47 91536 _ (P ++ (.inl (12, [(0, 0), (3, 0), (3, 0), (3, 0), (3, 0), (3, 0), (3, 0), (3, 0), (3, 0), (3, 0), (3, 0), (0, 0), (0, 0), (0, 0), (0, 0), (0, 0), (0, 0), (0, 0), (0, 0), (0, 0), (0, 0), (0, 0), (3, 0), (3, 0), (3, 0), (3, 0), (3, 0), (3, 0), (3, 0), (3, 0), (3, 0), (3, 0), (0, 0), (3, 0), (3, 0), (0, 0), (0, 0), (3, 0), (0, 0), (0, 0), (3, 0), (3, 0), (3, 0), (3, 0), (0, 0), (0, 0), (0, 0), (3, 0), (3, 0), (3, 0), (3, 0), (3, 0), (0, 0), (0, 0), (0, 0), (0, 0), (3, 0), (3, 0), (3, 0), (3, 0), (0, 0), (3, 0), (3, 0), (3, 0), (3, 0), (0, 0), (0, 0), (3, 0), (3, 0), (3, 0), (3, 0), (3, 0), (3, 0), (3, 0), (0, 0), (0, 0)])) :: T1) s7 1 8 38 [(0, .ref (gB g + L))] [.ref (gB g + (L + 1)), .ref (gB g + L)]
    refine a_dup (pc := 38) rfl d_BM_init_38 ?_
    refine a_bipush (pc := 39) (7 : Int32) (by decide) d_BM_init_39 ?_
    refine a_iconst (pc := 41) (-1 : Int32) (by decide) d_BM_init_41 ?_
    refine a_iast (pc := 42) (i := L + 1) (pb_t hL f1_0) (vp_in_nI (n := 7) (N := 8) (by decide) (by decide)) d_BM_init_42 ?_
    refine a_nms (fun s8 hs8 => ?_)
    have hz8 : ∀ i, L + 2 ≤ i → zro s8 i := fun i hi => by rw [hs8]; exact zro_sai (by omega) (hz7 i (by omega))
    show Ax g m_BM_init 47 91536 _ (P ++ (.inl (12, [(0, 0), (3, 0), (3, 0), (3, 0), (3, 0), (3, 0), (3, 0), (3, 0), (3, 0), (3, 0), (3, 0), (0, 0), (0, 0), (0, 0), (0, 0), (0, 0), (0, 0), (0, 0), (0, 0), (0, 0), (0, 0), (0, 0), (3, 0), (3, 0), (3, 0), (3, 0), (3, 0), (3, 0), (3, 0), (3, 0), (3, 0), (3, 0), (0, 0), (3, 0), (3, 0), (0, 0), (0, 0), (3, 0), (0, 0), (0, 0), (3, 0), (3, 0), (3, 0), (3, 0), (0, 0), (0, 0), (0, 0), (3, 0), (3, 0), (3, 0), (3, 0), (3, 0), (0, 0), (0, 0), (0, 0), (0, 0), (3, 0), (3, 0), (3, 0), (3, 0), (0, 0), (3, 0), (3, 0), (3, 0), (3, 0), (0, 0), (0, 0), (3, 0), (3, 0), (3, 0), (3, 0), (3, 0), (3, 0), (3, 0), (0, 0), (0, 0)])) :: T1) s8 1 8 43 [(0, .ref (gB g + L))] [.ref (gB g + (L + 1)), .ref (gB g + L)]
    refine a_putF (pc := 43) (i := L) (r := (L + 1)) fp_BM_9 (Or.inr ⟨_, rfl⟩) rfl rfl (pb_g hL) rfl d_BM_init_43 ?_
    rw [pb_s hL]
    show Ax g m_BM_init 47 91536 _ (P ++ (.inl (12, [(0, 0), (2, (L + 1)), (3, 0), (3, 0), (3, 0), (3, 0), (3, 0), (3, 0), (3, 0), (3, 0), (3, 0), (0, 0), (0, 0), (0, 0), (0, 0), (0, 0), (0, 0), (0, 0), (0, 0), (0, 0), (0, 0), (0, 0), (3, 0), (3, 0), (3, 0), (3, 0), (3, 0), (3, 0), (3, 0), (3, 0), (3, 0), (3, 0), (0, 0), (3, 0), (3, 0), (0, 0), (0, 0), (3, 0), (0, 0), (0, 0), (3, 0), (3, 0), (3, 0), (3, 0), (0, 0), (0, 0), (0, 0), (3, 0), (3, 0), (3, 0), (3, 0), (3, 0), (0, 0), (0, 0), (0, 0), (0, 0), (3, 0), (3, 0), (3, 0), (3, 0), (0, 0), (3, 0), (3, 0), (3, 0), (3, 0), (0, 0), (0, 0), (3, 0), (3, 0), (3, 0), (3, 0), (3, 0), (3, 0), (3, 0), (0, 0), (0, 0)])) :: T1) s8 1 8 46 [(0, .ref (gB g + L))] []
    refine a_aload_n (pc := 46) 0 rfl rfl d_BM_init_46 ?_
    refine a_bipush (pc := 47) (36 : Int32) (by decide) d_BM_init_47 ?_
    refine a_newi (pc := 49) (atype := .int) (kd := 0) (N := 36) rfl (Or.inl ⟨rfl, rfl⟩) tw54 (by rw [(pb_n hL hm1)]; exact hz8 _ (by omega)) (by decide) (by decide) (by decide) (Nat.le_of_ble_eq_true rfl) (Nat.le_of_ble_eq_true rfl) d_BM_init_49 ?_
    rw [(pb_n hL hm1), pb_push]
    show Ax g m_BM_init 47 91536 _ (P ++ (.inl (12, [(0, 0), (2, (L + 1)), (3, 0), (3, 0), (3, 0), (3, 0), (3, 0), (3, 0), (3, 0), (3, 0), (3, 0), (0, 0), (0, 0), (0, 0), (0, 0), (0, 0), (0, 0), (0, 0), (0, 0), (0, 0), (0, 0), (0, 0), (3, 0), (3, 0), (3, 0), (3, 0), (3, 0), (3, 0), (3, 0), (3, 0), (3, 0), (3, 0), (0, 0), (3, 0), (3, 0), (0, 0), (0, 0), (3, 0), (0, 0), (0, 0), (3, 0), (3, 0), (3, 0), (3, 0), (0, 0), (0, 0), (0, 0), (3, 0), (3, 0), (3, 0), (3, 0), (3, 0), (0, 0), (0, 0), (0, 0), (0, 0), (3, 0), (3, 0), (3, 0), (3, 0), (0, 0), (3, 0), (3, 0), (3, 0), (3, 0), (0, 0), (0, 0), (3, 0), (3, 0), (3, 0), (3, 0), (3, 0), (3, 0), (3, 0), (0, 0), (0, 0)])) :: (T1 ++ [.inr (0, 36, [])])) s8 2 44 51 [(0, .ref (gB g + L))] [.ref (gB g + (L + 2)), .ref (gB g + L)]
    obtain ⟨T2, hT2⟩ : ∃ y : List Sh, y = T1 ++ [.inr (0, 36, [])] := ⟨_, rfl⟩
    have hm2 : T2.length + 1 = 3 := by rw [hT2, List.length_append]; have := hm1; simp only [List.length_cons, List.length_nil]; omega
    have f2_0 : T2[0]? = some (.inr (0, 8, [])) := by rw [hT2, List.getElem?_append_left (by have := hm1; omega)]; exact f1_0
    have eT2 : T2 = RT_BM_init_2 L := by rw [hT2, eT1]; rfl
    rw [← hT2]
    refine a_putF (pc := 51) (i := L) (r := (L + 2)) fp_BM_13 (Or.inr ⟨_, rfl⟩) rfl rfl (pb_g hL) rfl d_BM_init_51 ?_
    rw [pb_s hL]
    show Ax g m_BM_init 47 91536 _ (P ++ (.inl (12, [(0, 0), (2, (L + 1)), (2, (L + 2)), (3, 0), (3, 0), (3, 0), (3, 0), (3, 0), (3, 0), (3, 0), (3, 0), (0, 0), (0, 0), (0, 0), (0, 0), (0, 0), (0, 0), (0, 0), (0, 0), (0, 0), (0, 0), (0, 0), (3, 0), (3, 0), (3, 0), (3, 0), (3, 0), (3, 0), (3, 0), (3, 0), (3, 0), (3, 0), (0, 0), (3, 0), (3, 0), (0, 0), (0, 0), (3, 0), (0, 0), (0, 0), (3, 0), (3, 0), (3, 0), (3, 0), (0, 0), (0, 0), (0, 0), (3, 0), (3, 0), (3, 0), (3, 0), (3, 0), (0, 0), (0, 0), (0, 0), (0, 0), (3, 0), (3, 0), (3, 0), (3, 0), (0, 0), (3, 0), (3, 0), (3, 0), (3, 0), (0, 0), (0, 0), (3, 0), (3, 0), (3, 0), (3, 0), (3, 0), (3, 0), (3, 0), (0, 0), (0, 0)])) :: T2) s8 2 44 54 [(0, .ref (gB g + L))] []
    refine a_aload_n (pc := 54) 0 rfl rfl d_BM_init_54 ?_
    refine a_iconst (pc := 55) (3 : Int32) (by decide) d_BM_init_55 ?_
    refine a_newi (pc := 56) (atype := .int) (kd := 0) (N := 3) rfl (Or.inl ⟨rfl, rfl⟩) tw54 (by rw [(pb_n hL hm2)]; exact hz8 _ (by omega)) (by decide) (by decide) (by decide) (Nat.le_of_ble_eq_true rfl) (Nat.le_of_ble_eq_true rfl) d_BM_init_56 ?_
    rw [(pb_n hL hm2), pb_push]
    show Ax g m_BM_init 47 91536 _ (P ++ (.inl (12, [(0, 0), (2, (L + 1)), (2, (L + 2)), (3, 0), (3, 0), (3, 0), (3, 0), (3, 0), (3, 0), (3, 0), (3, 0), (0, 0), (0, 0), (0, 0), (0, 0), (0, 0), (0, 0), (0, 0), (0, 0), (0, 0), (0, 0), (0, 0), (3, 0), (3, 0), (3, 0), (3, 0), (3, 0), (3, 0), (3, 0), (3, 0), (3, 0), (3, 0), (0, 0), (3, 0), (3, 0), (0, 0), (0, 0), (3, 0), (0, 0), (0, 0), (3, 0), (3, 0), (3, 0), (3, 0), (0, 0), (0, 0), (0, 0), (3, 0), (3, 0), (3, 0), (3, 0), (3, 0), (0, 0), (0, 0), (0, 0), (0, 0), (3, 0), (3, 0), (3, 0), (3, 0), (0, 0), (3, 0), (3, 0), (3, 0), (3, 0), (0, 0), (0, 0), (3, 0), (3, 0), (3, 0), (3, 0), (3, 0), (3, 0), (3, 0), (0, 0), (0, 0)])) :: (T2 ++ [.inr (0, 3, [])])) s8 3 47 58 [(0, .ref (gB g + L))] [.ref (gB g + (L + 3)), .ref (gB g + L)]
    obtain ⟨T3, hT3⟩ : ∃ y : List Sh, y = T2 ++ [.inr (0, 3, [])] := ⟨_, rfl⟩
    have hm3 : T3.length + 1 = 4 := by rw [hT3, List.length_append]; have := hm2; simp only [List.length_cons, List.length_nil]; omega
    have f3_0 : T3[0]? = some (.inr (0, 8, [])) := by rw [hT3, List.getElem?_append_left (by have := hm2; omega)]; exact f2_0
    have eT3 : T3 = RT_BM_init_3 L := by rw [hT3, eT2]; rfl
    rw [← hT3]
    refine a_putF (pc := 58) (i := L) (r := (L + 3)) fp_BM_16 (Or.inr ⟨_, rfl⟩) rfl rfl (pb_g hL) rfl d_BM_init_58 ?_
    rw [pb_s hL]
    show Ax g m_BM_init 47 91536 _ (P ++ (.inl (12, [(0, 0), (2, (L + 1)), (2, (L + 2)), (2, (L + 3)), (3, 0), (3, 0), (3, 0), (3, 0), (3, 0), (3, 0), (3, 0), (0, 0), (0, 0), (0, 0), (0, 0), (0, 0), (0, 0), (0, 0), (0, 0), (0, 0), (0, 0), (0, 0), (3, 0), (3, 0), (3, 0), (3, 0), (3, 0), (3, 0), (3, 0), (3, 0), (3, 0), (3, 0), (0, 0), (3, 0), (3, 0), (0, 0), (0, 0), (3, 0), (0, 0), (0, 0), (3, 0), (3, 0), (3, 0), (3, 0), (0, 0), (0, 0), (0, 0), (3, 0), (3, 0), (3, 0), (3, 0), (3, 0), (0, 0), (0, 0), (0, 0), (0, 0), (3, 0), (3, 0), (3, 0), (3, 0), (0, 0), (3, 0), (3, 0), (3, 0), (3, 0), (0, 0), (0, 0), (3, 0), (3, 0), (3, 0), (3, 0), (3, 0), (3, 0), (3, 0), (0, 0), (0, 0)])) :: T3) s8 3 47 61 [(0, .ref (gB g + L))] []
    refine a_aload_n (pc := 61) 0 rfl rfl d_BM_init_61 ?_
    refine a_bipush (pc := 62) (8 : Int32) (by decide) d_BM_init_62 ?_
    refine a_newi (pc := 64) (atype := .int) (kd := 0) (N := 8) rfl (Or.inl ⟨rfl, rfl⟩) tw54 (by rw [(pb_n hL hm3)]; exact hz8 _ (by omega)) (by decide) (by decide) (by decide) (Nat.le_of_ble_eq_true rfl) (Nat.le_of_ble_eq_true rfl) d_BM_init_64 ?_
    rw [(pb_n hL hm3), pb_push]
    show Ax g m_BM_init 47 91536 _ (P ++ (.inl (12, [(0, 0), (2, (L + 1)), (2, (L + 2)), (2, (L + 3)), (3, 0), (3, 0), (3, 0), (3, 0), (3, 0), (3, 0), (3, 0), (0, 0), (0, 0), (0, 0), (0, 0), (0, 0), (0, 0), (0, 0), (0, 0), (0, 0), (0, 0), (0, 0), (3, 0), (3, 0), (3, 0), (3, 0), (3, 0), (3, 0), (3, 0), (3, 0), (3, 0), (3, 0), (0, 0), (3, 0), (3, 0), (0, 0), (0, 0), (3, 0), (0, 0), (0, 0), (3, 0), (3, 0), (3, 0), (3, 0), (0, 0), (0, 0), (0, 0), (3, 0), (3, 0), (3, 0), (3, 0), (3, 0), (0, 0), (0, 0), (0, 0), (0, 0), (3, 0), (3, 0), (3, 0), (3, 0), (0, 0), (3, 0), (3, 0), (3, 0), (3, 0), (0, 0), (0, 0), (3, 0), (3, 0), (3, 0), (3, 0), (3, 0), (3, 0), (3, 0), (0, 0), (0, 0)])) :: (T3 ++ [.inr (0, 8, [])])) s8 4 55 66 [(0, .ref (gB g + L))] [.ref (gB g + (L + 4)), .ref (gB g + L)]
    obtain ⟨T4, hT4⟩ : ∃ y : List Sh, y = T3 ++ [.inr (0, 8, [])] := ⟨_, rfl⟩
    have hm4 : T4.length + 1 = 5 := by rw [hT4, List.length_append]; have := hm3; simp only [List.length_cons, List.length_nil]; omega
    have f4_0 : T4[0]? = some (.inr (0, 8, [])) := by rw [hT4, List.getElem?_append_left (by have := hm3; omega)]; exact f3_0
    have eT4 : T4 = RT_BM_init_4 L := by rw [hT4, eT3]; rfl
    rw [← hT4]
    refine a_putF (pc := 66) (i := L) (r := (L + 4)) fp_BM_19 (Or.inr ⟨_, rfl⟩) rfl rfl (pb_g hL) rfl d_BM_init_66 ?_
    rw [pb_s hL]
    show Ax g m_BM_init 47 91536 _ (P ++ (.inl (12, [(0, 0), (2, (L + 1)), (2, (L + 2)), (2, (L + 3)), (2, (L + 4)), (3, 0), (3, 0), (3, 0), (3, 0), (3, 0), (3, 0), (0, 0), (0, 0), (0, 0), (0, 0), (0, 0), (0, 0), (0, 0), (0, 0), (0, 0), (0, 0), (0, 0), (3, 0), (3, 0), (3, 0), (3, 0), (3, 0), (3, 0), (3, 0), (3, 0), (3, 0), (3, 0), (0, 0), (3, 0), (3, 0), (0, 0), (0, 0), (3, 0), (0, 0), (0, 0), (3, 0), (3, 0), (3, 0), (3, 0), (0, 0), (0, 0), (0, 0), (3, 0), (3, 0), (3, 0), (3, 0), (3, 0), (0, 0), (0, 0), (0, 0), (0, 0), (3, 0), (3, 0), (3, 0), (3, 0), (0, 0), (3, 0), (3, 0), (3, 0), (3, 0), (0, 0), (0, 0), (3, 0), (3, 0), (3, 0), (3, 0), (3, 0), (3, 0), (3, 0), (0, 0), (0, 0)])) :: T4) s8 4 55 69 [(0, .ref (gB g + L))] []
    refine a_aload_n (pc := 69) 0 rfl rfl d_BM_init_69 ?_
    refine a_bipush (pc := 70) (8 : Int32) (by decide) d_BM_init_70 ?_
    refine a_newi (pc := 72) (atype := .int) (kd := 0) (N := 8) rfl (Or.inl ⟨rfl, rfl⟩) tw54 (by rw [(pb_n hL hm4)]; exact hz8 _ (by omega)) (by decide) (by decide) (by decide) (Nat.le_of_ble_eq_true rfl) (Nat.le_of_ble_eq_true rfl) d_BM_init_72 ?_
    rw [(pb_n hL hm4), pb_push]
    show Ax g m_BM_init 47 91536 _ (P ++ (.inl (12, [(0, 0), (2, (L + 1)), (2, (L + 2)), (2, (L + 3)), (2, (L + 4)), (3, 0), (3, 0), (3, 0), (3, 0), (3, 0), (3, 0), (0, 0), (0, 0), (0, 0), (0, 0), (0, 0), (0, 0), (0, 0), (0, 0), (0, 0), (0, 0), (0, 0), (3, 0), (3, 0), (3, 0), (3, 0), (3, 0), (3, 0), (3, 0), (3, 0), (3, 0), (3, 0), (0, 0), (3, 0), (3, 0), (0, 0), (0, 0), (3, 0), (0, 0), (0, 0), (3, 0), (3, 0), (3, 0), (3, 0), (0, 0), (0, 0), (0, 0), (3, 0), (3, 0), (3, 0), (3, 0), (3, 0), (0, 0), (0, 0), (0, 0), (0, 0), (3, 0), (3, 0), (3, 0), (3, 0), (0, 0), (3, 0), (3, 0), (3, 0), (3, 0), (0, 0), (0, 0), (3, 0), (3, 0), (3, 0), (3, 0), (3, 0), (3, 0), (3, 0), (0, 0), (0, 0)])) :: (T4 ++ [.inr (0, 8, [])])) s8 5 63 74 [(0, .ref (gB g + L))] [.ref (gB g + (L + 5)), .ref (gB g + L)]
    obtain ⟨T5, hT5⟩ : ∃ y : List Sh, y = T4 ++ [.inr (0, 8, [])] := ⟨_, rfl⟩
    have hm5 : T5.length + 1 = 6 := by rw [hT5, List.length_append]; have := hm4; simp only [List.length_cons, List.length_nil]; omega
    have eT5 : T5 = RT_BM_init_5 L := by rw [hT5, eT4]; rfl
    rw [← hT5]
    refine a_putF (pc := 74) (i := L) (r := (L + 5)) fp_BM_22 (Or.inr ⟨_, rfl⟩) rfl rfl (pb_g hL) rfl d_BM_init_74 ?_
    rw [pb_s hL]
    show Ax g m_BM_init 47 91536 _ (P ++ (.inl (12, [(0, 0), (2, (L + 1)), (2, (L + 2)), (2, (L + 3)), (2, (L + 4)), (2, (L + 5)), (3, 0), (3, 0), (3, 0), (3, 0), (3, 0), (0, 0), (0, 0), (0, 0), (0, 0), (0, 0), (0, 0), (0, 0), (0, 0), (0, 0), (0, 0), (0, 0), (3, 0), (3, 0), (3, 0), (3, 0), (3, 0), (3, 0), (3, 0), (3, 0), (3, 0), (3, 0), (0, 0), (3, 0), (3, 0), (0, 0), (0, 0), (3, 0), (0, 0), (0, 0), (3, 0), (3, 0), (3, 0), (3, 0), (0, 0), (0, 0), (0, 0), (3, 0), (3, 0), (3, 0), (3, 0), (3, 0), (0, 0), (0, 0), (0, 0), (0, 0), (3, 0), (3, 0), (3, 0), (3, 0), (0, 0), (3, 0), (3, 0), (3, 0), (3, 0), (0, 0), (0, 0), (3, 0), (3, 0), (3, 0), (3, 0), (3, 0), (3, 0), (3, 0), (0, 0), (0, 0)])) :: T5) s8 5 63 77 [(0, .ref (gB g + L))] []
    refine a_aload_n (pc := 77) 0 rfl rfl d_BM_init_77 ?_
    refine a_bipush (pc := 78) (8 : Int32) (by decide) d_BM_init_78 ?_
    refine a_newi (pc := 80) (atype := .int) (kd := 0) (N := 8) rfl (Or.inl ⟨rfl, rfl⟩) tw54 (by rw [(pb_n hL hm5)]; exact hz8 _ (by omega)) (by decide) (by decide) (by decide) (Nat.le_of_ble_eq_true rfl) (Nat.le_of_ble_eq_true rfl) d_BM_init_80 ?_
    rw [(pb_n hL hm5), pb_push]
    show Ax g m_BM_init 47 91536 _ (P ++ (.inl (12, [(0, 0), (2, (L + 1)), (2, (L + 2)), (2, (L + 3)), (2, (L + 4)), (2, (L + 5)), (3, 0), (3, 0), (3, 0), (3, 0), (3, 0), (0, 0), (0, 0), (0, 0), (0, 0), (0, 0), (0, 0), (0, 0), (0, 0), (0, 0), (0, 0), (0, 0), (3, 0), (3, 0), (3, 0), (3, 0), (3, 0), (3, 0), (3, 0), (3, 0), (3, 0), (3, 0), (0, 0), (3, 0), (3, 0), (0, 0), (0, 0), (3, 0), (0, 0), (0, 0), (3, 0), (3, 0), (3, 0), (3, 0), (0, 0), (0, 0), (0, 0), (3, 0), (3, 0), (3, 0), (3, 0), (3, 0), (0, 0), (0, 0), (0, 0), (0, 0), (3, 0), (3, 0), (3, 0), (3, 0), (0, 0), (3, 0), (3, 0), (3, 0), (3, 0), (0, 0), (0, 0), (3, 0), (3, 0), (3, 0), (3, 0), (3, 0), (3, 0), (3, 0), (0, 0), (0, 0)])) :: (T5 ++ [.inr (0, 8, [])])) s8 6 71 82 [(0, .ref (gB g + L))] [.ref (gB g + (L + 6)), .ref (gB g + L)]
    obtain ⟨T6, hT6⟩ : ∃ y : List Sh, y = T5 ++ [.inr (0, 8, [])] := ⟨_, rfl⟩
    have hm6 : T6.length + 1 = 7 := by rw [hT6, List.length_append]; have := hm5; simp only [List.length_cons, List.length_nil]; omega
    have eT6 : T6 = RT_BM_init_6 L := by rw [hT6, eT5]; rfl
    rw [← hT6]
    refine a_putF (pc := 82) (i := L) (r := (L + 6)) fp_BM_25 (Or.inr ⟨_, rfl⟩) rfl rfl (pb_g hL) rfl d_BM_init_82 ?_
    rw [pb_s hL]
    show Ax g m_BM_init 47 91536 _ (P ++ (.inl (12, [(0, 0), (2, (L + 1)), (2, (L + 2)), (2, (L + 3)), (2, (L + 4)), (2, (L + 5)), (2, (L + 6)), (3, 0), (3, 0), (3, 0), (3, 0), (0, 0), (0, 0), (0, 0), (0, 0), (0, 0), (0, 0), (0, 0), (0, 0), (0, 0), (0, 0), (0, 0), (3, 0), (3, 0), (3, 0), (3, 0), (3, 0), (3, 0), (3, 0), (3, 0), (3, 0), (3, 0), (0, 0), (3, 0), (3, 0), (0, 0), (0, 0), (3, 0), (0, 0), (0, 0), (3, 0), (3, 0), (3, 0), (3, 0), (0, 0), (0, 0), (0, 0), (3, 0), (3, 0), (3, 0), (3, 0), (3, 0), (0, 0), (0, 0), (0, 0), (0, 0), (3, 0), (3, 0), (3, 0), (3, 0), (0, 0), (3, 0), (3, 0), (3, 0), (3, 0), (0, 0), (0, 0), (3, 0), (3, 0), (3, 0), (3, 0), (3, 0), (3, 0), (3, 0), (0, 0), (0, 0)])) :: T6) s8 6 71 85 [(0, .ref (gB g + L))] []
    refine a_aload_n (pc := 85) 0 rfl rfl d_BM_init_85 ?_
    refine a_bipush (pc := 86) (8 : Int32) (by decide) d_BM_init_86 ?_
    refine a_newi (pc := 88) (atype := .int) (kd := 0) (N := 8) rfl (Or.inl ⟨rfl, rfl⟩) tw54 (by rw [(pb_n hL hm6)]; exact hz8 _ (by omega)) (by decide) (by decide) (by decide) (Nat.le_of_ble_eq_true rfl) (Nat.le_of_ble_eq_true rfl) d_BM_init_88 ?_
    rw [(pb_n hL hm6), pb_push]
    show Ax g m_BM_init 47 91536 _ (P ++ (.inl (12, [(0, 0), (2, (L + 1)), (2, (L + 2)), (2, (L + 3)), (2, (L + 4)), (2, (L + 5)), (2, (L + 6)), (3, 0), (3, 0), (3, 0), (3, 0), (0, 0), (0, 0), (0, 0), (0, 0), (0, 0), (0, 0), (0, 0), (0, 0), (0, 0), (0, 0), (0, 0), (3, 0), (3, 0), (3, 0), (3, 0), (3, 0), (3, 0), (3, 0), (3, 0), (3, 0), (3, 0), (0, 0), (3, 0), (3, 0), (0, 0), (0, 0), (3, 0), (0, 0), (0, 0), (3, 0), (3, 0), (3, 0), (3, 0), (0, 0), (0, 0), (0, 0), (3, 0), (3, 0), (3, 0), (3, 0), (3, 0), (0, 0), (0, 0), (0, 0), (0, 0), (3, 0), (3, 0), (3, 0), (3, 0), (0, 0), (3, 0), (3, 0), (3, 0), (3, 0), (0, 0), (0, 0), (3, 0), (3, 0), (3, 0), (3, 0), (3, 0), (3, 0), (3, 0), (0, 0), (0, 0)])) :: (T6 ++ [.inr (0, 8, [])])) s8 7 79 90 [(0, .ref (gB g + L))] [.ref (gB g + (L + 7)), .ref (gB g + L)]
    obtain ⟨T7, hT7⟩ : ∃ y : List Sh, y = T6 ++ [.inr (0, 8, [])] := ⟨_, rfl⟩
    have hm7 : T7.length + 1 = 8 := by rw [hT7, List.length_append]; have := hm6; simp only [List.length_cons, List.length_nil]; omega
    have eT7 : T7 = RT_BM_init_7 L := by rw [hT7, eT6]; rfl
    rw [← hT7]
    refine a_putF (pc := 90) (i := L) (r := (L + 7)) fp_BM_28 (Or.inr ⟨_, rfl⟩) rfl rfl (pb_g hL) rfl d_BM_init_90 ?_
    rw [pb_s hL]
    show Ax g m_BM_init 47 91536 _ (P ++ (.inl (12, [(0, 0), (2, (L + 1)), (2, (L + 2)), (2, (L + 3)), (2, (L + 4)), (2, (L + 5)), (2, (L + 6)), (2, (L + 7)), (3, 0), (3, 0), (3, 0), (0, 0), (0, 0), (0, 0), (0, 0), (0, 0), (0, 0), (0, 0), (0, 0), (0, 0), (0, 0), (0, 0), (3, 0), (3, 0), (3, 0), (3, 0), (3, 0), (3, 0), (3, 0), (3, 0), (3, 0), (3, 0), (0, 0), (3, 0), (3, 0), (0, 0), (0, 0), (3, 0), (0, 0), (0, 0), (3, 0), (3, 0), (3, 0), (3, 0), (0, 0), (0, 0), (0, 0), (3, 0), (3, 0), (3, 0), (3, 0), (3, 0), (0, 0), (0, 0), (0, 0), (0, 0), (3, 0), (3, 0), (3, 0), (3, 0), (0, 0), (3, 0), (3, 0), (3, 0), (3, 0), (0, 0), (0, 0), (3, 0), (3, 0), (3, 0), (3, 0), (3, 0), (3, 0), (3, 0), (0, 0), (0, 0)])) :: T7) s8 7 79 93 [(0, .ref (gB g + L))] []
    refine a_aload_n (pc := 93) 0 rfl rfl d_BM_init_93 ?_
    refine a_iconst (pc := 94) (3 : Int32) (by decide) d_BM_init_94 ?_
    refine a_newi (pc := 95) (atype := .int) (kd := 0) (N := 3) rfl (Or.inl ⟨rfl, rfl⟩) tw54 (by rw [(pb_n hL hm7)]; exact hz8 _ (by omega)) (by decide) (by decide) (by decide) (Nat.le_of_ble_eq_true rfl) (Nat.le_of_ble_eq_true rfl) d_BM_init_95 ?_
    rw [(pb_n hL hm7), pb_push]
    show Ax g m_BM_init 47 91536 _ (P ++ (.inl (12, [(0, 0), (2, (L + 1)), (2, (L + 2)), (2, (L + 3)), (2, (L + 4)), (2, (L + 5)), (2, (L + 6)), (2, (L + 7)), (3, 0), (3, 0), (3, 0), (0, 0), (0, 0), (0, 0), (0, 0), (0, 0), (0, 0), (0, 0), (0, 0), (0, 0), (0, 0), (0, 0), (3, 0), (3, 0), (3, 0), (3, 0), (3, 0), (3, 0), (3, 0), (3, 0), (3, 0), (3, 0), (0, 0), (3, 0), (3, 0), (0, 0), (0, 0), (3, 0), (0, 0), (0, 0), (3, 0), (3, 0), (3, 0), (3, 0), (0, 0), (0, 0), (0, 0), (3, 0), (3, 0), (3, 0), (3, 0), (3, 0), (0, 0), (0, 0), (0, 0), (0, 0), (3, 0), (3, 0), (3, 0), (3, 0), (0, 0), (3, 0), (3, 0), (3, 0), (3, 0), (0, 0), (0, 0), (3, 0), (3, 0), (3, 0), (3, 0), (3, 0), (3, 0), (3, 0), (0, 0), (0, 0)])) :: (T7 ++ [.inr (0, 3, [])])) s8 8 82 97 [(0, .ref (gB g + L))] [.ref (gB g + (L + 8)), .ref (gB g + L)]
    obtain ⟨T8, hT8⟩ : ∃ y : List Sh, y = T7 ++ [.inr (0, 3, [])] := ⟨_, rfl⟩
    have hm8 : T8.length + 1 = 9 := by rw [hT8, List.length_append]; have := hm7; simp only [List.length_cons, List.length_nil]; omega
    have eT8 : T8 = RT_BM_init_8 L := by rw [hT8, eT7]; rfl
    rw [← hT8]
    refine a_putF (pc := 97) (i := L) (r := (L + 8)) fp_BM_31 (Or.inr ⟨_, rfl⟩) rfl rfl (pb_g hL) rfl d_BM_init_97 ?_
    rw [pb_s hL]
    show Ax g m_BM_init 47 91536 _ (P ++ (.inl (12, [(0, 0), (2, (L + 1)), (2, (L + 2)), (2, (L + 3)), (2, (L + 4)), (2, (L + 5)), (2, (L + 6)), (2, (L + 7)), (2, (L + 8)), (3, 0), (3, 0), (0, 0), (0, 0), (0, 0), (0, 0), (0, 0), (0, 0), (0, 0), (0, 0), (0, 0), (0, 0), (0, 0), (3, 0), (3, 0), (3, 0), (3, 0), (3, 0), (3, 0), (3, 0), (3, 0), (3, 0), (3, 0), (0, 0), (3, 0), (3, 0), (0, 0), (0, 0), (3, 0), (0, 0), (0, 0), (3, 0), (3, 0), (3, 0), (3, 0), (0, 0), (0, 0), (0, 0), (3, 0), (3, 0), (3, 0), (3, 0), (3, 0), (0, 0), (0, 0), (0, 0), (0, 0), (3, 0), (3, 0), (3, 0), (3, 0), (0, 0), (3, 0), (3, 0), (3, 0), (3, 0), (0, 0), (0, 0), (3, 0), (3, 0), (3, 0), (3, 0), (3, 0), (3, 0), (3, 0), (0, 0), (0, 0)])) :: T8) s8 8 82 100 [(0, .ref (gB g + L))] []
    refine a_aload_n (pc := 100) 0 rfl rfl d_BM_init_100 ?_
    refine a_bipush (pc := 101) (36 : Int32) (by decide) d_BM_init_101 ?_
    refine a_newi (pc := 103) (atype := .int) (kd := 0) (N := 36) rfl (Or.inl ⟨rfl, rfl⟩) tw54 (by rw [(pb_n hL hm8)]; exact hz8 _ (by omega)) (by decide) (by decide) (by decide) (Nat.le_of_ble_eq_true rfl) (Nat.le_of_ble_eq_true rfl) d_BM_init_103 ?_
    rw [(pb_n hL hm8), pb_push]
    show Ax g m_BM_init 47 91536 _ (P ++ (.inl (12, [(0, 0), (2, (L + 1)), (2, (L + 2)), (2, (L + 3)), (2, (L + 4)), (2, (L + 5)), (2, (L + 6)), (2, (L + 7)), (2, (L + 8)), (3, 0), (3, 0), (0, 0), (0, 0), (0, 0), (0, 0), (0, 0), (0, 0), (0, 0), (0, 0), (0, 0), (0, 0), (0, 0), (3, 0), (3, 0), (3, 0), (3, 0), (3, 0), (3, 0), (3, 0), (3, 0), (3, 0), (3, 0), (0, 0), (3, 0), (3, 0), (0, 0), (0, 0), (3, 0), (0, 0), (0, 0), (3, 0), (3, 0), (3, 0), (3, 0), (0, 0), (0, 0), (0, 0), (3, 0), (3, 0), (3, 0), (3, 0), (3, 0), (0, 0), (0, 0), (0, 0), (0, 0), (3, 0), (3, 0), (3, 0), (3, 0), (0, 0), (3, 0), (3, 0), (3, 0), (3, 0), (0, 0), (0, 0), (3, 0), (3, 0), (3, 0), (3, 0), (3, 0), (3, 0), (3, 0), (0, 0), (0, 0)])) :: (T8 ++ [.inr (0, 36, [])])) s8 9 118 105 [(0, .ref (gB g + L))] [.ref (gB g + (L + 9)), .ref (gB g + L)]
    obtain ⟨T9, hT9⟩ : ∃ y : List Sh, y = T8 ++ [.inr (0, 36, [])] := ⟨_, rfl⟩
    have hm9 : T9.length + 1 = 10 := by rw [hT9, List.length_append]; have := hm8; simp only [List.length_cons, List.length_nil]; omega
    have eT9 : T9 = RT_BM_init_9 L := by rw [hT9, eT8]; rfl
    rw [← hT9]
    refine a_putF (pc := 105) (i := L) (r := (L + 9)) fp_BM_34 (Or.inr ⟨_, rfl⟩) rfl rfl (pb_g hL) rfl d_BM_init_105 ?_
    rw [pb_s hL]
    show Ax g m_BM_init 47 91536 _ (P ++ (.inl (12, [(0, 0), (2, (L + 1)), (2, (L + 2)), (2, (L + 3)), (2, (L + 4)), (2, (L + 5)), (2, (L + 6)), (2, (L + 7)), (2, (L + 8)), (2, (L + 9)), (3, 0), (0, 0), (0, 0), (0, 0), (0, 0), (0, 0), (0, 0), (0, 0), (0, 0), (0, 0), (0, 0), (0, 0), (3, 0), (3, 0), (3, 0), (3, 0), (3, 0), (3, 0), (3, 0), (3, 0), (3, 0), (3, 0), (0, 0), (3, 0), (3, 0), (0, 0), (0, 0), (3, 0), (0, 0), (0, 0), (3, 0), (3, 0), (3, 0), (3, 0), (0, 0), (0, 0), (0, 0), (3, 0), (3, 0), (3, 0), (3, 0), (3, 0), (0, 0), (0, 0), (0, 0), (0, 0), (3, 0), (3, 0), (3, 0), (3, 0), (0, 0), (3, 0), (3, 0), (3, 0), (3, 0), (0, 0), (0, 0), (3, 0), (3, 0), (3, 0), (3, 0), (3, 0), (3, 0), (3, 0), (0, 0), (0, 0)])) :: T9) s8 9 118 108 [(0, .ref (gB g + L))] []
    refine a_aload_n (pc := 108) 0 rfl rfl d_BM_init_108 ?_
    refine a_iconst (pc := 109) (3 : Int32) (by decide) d_BM_init_109 ?_
    refine a_newi (pc := 110) (atype := .int) (kd := 0) (N := 3) rfl (Or.inl ⟨rfl, rfl⟩) tw54 (by rw [(pb_n hL hm9)]; exact hz8 _ (by omega)) (by decide) (by decide) (by decide) (Nat.le_of_ble_eq_true rfl) (Nat.le_of_ble_eq_true rfl) d_BM_init_110 ?_
    rw [(pb_n hL hm9), pb_push]
    show Ax g m_BM_init 47 91536 _ (P ++ (.inl (12, [(0, 0), (2, (L + 1)), (2, (L + 2)), (2, (L + 3)), (2, (L + 4)), (2, (L + 5)), (2, (L + 6)), (2, (L + 7)), (2, (L + 8)), (2, (L + 9)), (3, 0), (0, 0), (0, 0), (0, 0), (0, 0), (0, 0), (0, 0), (0, 0), (0, 0), (0, 0), (0, 0), (0, 0), (3, 0), (3, 0), (3, 0), (3, 0), (3, 0), (3, 0), (3, 0), (3, 0), (3, 0), (3, 0), (0, 0), (3, 0), (3, 0), (0, 0), (0, 0), (3, 0), (0, 0), (0, 0), (3, 0), (3, 0), (3, 0), (3, 0), (0, 0), (0, 0), (0, 0), (3, 0), (3, 0), (3, 0), (3, 0), (3, 0), (0, 0), (0, 0), (0, 0), (0, 0), (3, 0), (3, 0), (3, 0), (3, 0), (0, 0), (3, 0), (3, 0), (3, 0), (3, 0), (0, 0), (0, 0), (3, 0), (3, 0), (3, 0), (3, 0), (3, 0), (3, 0), (3, 0), (0, 0), (0, 0)])) :: (T9 ++ [.inr (0, 3, [])])) s8 10 121 112 [(0, .ref (gB g + L))] [.ref (gB g + (L + 10)), .ref (gB g + L)]
    obtain ⟨T10, hT10⟩ : ∃ y : List Sh, y = T9 ++ [.inr (0, 3, [])] := ⟨_, rfl⟩
    have hm10 : T10.length + 1 = 11 := by rw [hT10, List.length_append]; have := hm9; simp only [List.length_cons, List.length_nil]; omega
    have eT10 : T10 = RT_BM_init_10 L := by rw [hT10, eT9]; rfl
    rw [← hT10]
    refine a_putF (pc := 112) (i := L) (r := (L + 10)) fp_BM_37 (Or.inr ⟨_, rfl⟩) rfl rfl (pb_g hL) rfl d_BM_init_112 ?_
    rw [pb_s hL]
    show Ax g m_BM_init 47 91536 _ (P ++ (.inl (12, [(0, 0), (2, (L + 1)), (2, (L + 2)), (2, (L + 3)), (2, (L + 4)), (2, (L + 5)), (2, (L + 6)), (2, (L + 7)), (2, (L + 8)), (2, (L + 9)), (2, (L + 10)), (0, 0), (0, 0), (0, 0), (0, 0), (0, 0), (0, 0), (0, 0), (0, 0), (0, 0), (0, 0), (0, 0), (3, 0), (3, 0), (3, 0), (3, 0), (3, 0), (3, 0), (3, 0), (3, 0), (3, 0), (3, 0), (0, 0), (3, 0), (3, 0), (0, 0), (0, 0), (3, 0), (0, 0), (0, 0), (3, 0), (3, 0), (3, 0), (3, 0), (0, 0), (0, 0), (0, 0), (3, 0), (3, 0), (3, 0), (3, 0), (3, 0), (0, 0), (0, 0), (0, 0), (0, 0), (3, 0), (3, 0), (3, 0), (3, 0), (0, 0), (3, 0), (3, 0), (3, 0), (3, 0), (0, 0), (0, 0), (3, 0), (3, 0), (3, 0), (3, 0), (3, 0), (3, 0), (3, 0), (0, 0), (0, 0)])) :: T10) s8 10 121 115 [(0, .ref (gB g + L))] []
    refine a_aload_n (pc := 115) 0 rfl rfl d_BM_init_115 ?_
    refine a_bipush (pc := 116) (8 : Int32) (by decide) d_BM_init_116 ?_
    refine a_putI (pc := 118) (i := L) fp_BM_40 (pb_g hL) rfl d_BM_init_118 ?_
    refine a_nms (fun s9 hs9 => ?_)
    have hz9 : ∀ i, L + 11 ≤ i → zro s9 i := fun i hi => by rw [hs9]; exact zro_sfi (by omega) (hz8 i (by omega))
    show Ax g m_BM_init 47 91536 _ (P ++ (.inl (12, [(0, 0), (2, (L + 1)), (2, (L + 2)), (2, (L + 3)), (2, (L + 4)), (2, (L + 5)), (2, (L + 6)), (2, (L + 7)), (2, (L + 8)), (2, (L + 9)), (2, (L + 10)), (0, 0), (0, 0), (0, 0), (0, 0), (0, 0), (0, 0), (0, 0), (0, 0), (0, 0), (0, 0), (0, 0), (3, 0), (3, 0), (3, 0), (3, 0), (3, 0), (3, 0), (3, 0), (3, 0), (3, 0), (3, 0), (0, 0), (3, 0), (3, 0), (0, 0), (0, 0), (3, 0), (0, 0), (0, 0), (3, 0), (3, 0), (3, 0), (3, 0), (0, 0), (0, 0), (0, 0), (3, 0), (3, 0), (3, 0), (3, 0), (3, 0), (0, 0), (0, 0), (0, 0), (0, 0), (3, 0), (3, 0), (3, 0), (3, 0), (0, 0), (3, 0), (3, 0), (3, 0), (3, 0), (0, 0), (0, 0), (3, 0), (3, 0), (3, 0), (3, 0), (3, 0), (3, 0), (3, 0), (0, 0), (0, 0)])) :: T10) s9 10 121 121 [(0, .ref (gB g + L))] []
    refine a_aload_n (pc := 121) 0 rfl rfl d_BM_init_121 ?_
    refine a_sipush (pc := 122) (400 : Int32) (by decide) d_BM_init_122 ?_
    refine a_newi (pc := 125) (atype := .byte) (kd := 2) (N := 400) rfl (Or.inr (Or.inr (Or.inl ⟨rfl, rfl⟩))) tw662 (by rw [(pb_n hL hm10)]; exact hz9 _ (by omega)) (by decide) (by decide) (by decide) (Nat.le_of_ble_eq_true rfl) (Nat.le_of_ble_eq_true rfl) d_BM_init_125 ?_
    rw [(pb_n hL hm10), pb_push]
    show Ax g m_BM_init 47 91536 _ (P ++ (.inl (12, [(0, 0), (2, (L + 1)), (2, (L + 2)), (2, (L + 3)), (2, (L + 4)), (2, (L + 5)), (2, (L + 6)), (2, (L + 7)), (2, (L + 8)), (2, (L + 9)), (2, (L + 10)), (0, 0), (0, 0), (0, 0), (0, 0), (0, 0), (0, 0), (0, 0), (0, 0), (0, 0), (0, 0), (0, 0), (3, 0), (3, 0), (3, 0), (3, 0), (3, 0), (3, 0), (3, 0), (3, 0), (3, 0), (3, 0), (0, 0), (3, 0), (3, 0), (0, 0), (0, 0), (3, 0), (0, 0), (0, 0), (3, 0), (3, 0), (3, 0), (3, 0), (0, 0), (0, 0), (0, 0), (3, 0), (3, 0), (3, 0), (3, 0), (3, 0), (0, 0), (0, 0), (0, 0), (0, 0), (3, 0), (3, 0), (3, 0), (3, 0), (0, 0), (3, 0), (3, 0), (3, 0), (3, 0), (0, 0), (0, 0), (3, 0), (3, 0), (3, 0), (3, 0), (3, 0), (3, 0), (3, 0), (0, 0), (0, 0)])) :: (T10 ++ [.inr (2, 400, [])])) s9 11 521 127 [(0, .ref (gB g + L))] [.ref (gB g + (L + 11)), .ref (gB g + L)]
    obtain ⟨T11, hT11⟩ : ∃ y : List Sh, y = T10 ++ [.inr (2, 400, [])] := ⟨_, rfl⟩
    have hm11 : T11.length + 1 = 12 := by rw [hT11, List.length_append]; have := hm10; simp only [List.length_cons, List.length_nil]; omega
    have eT11 : T11 = RT_BM_init_11 L := by rw [hT11, eT10]; rfl
    rw [← hT11]
    refine a_putF (pc := 127) (i := L) (r := (L + 11)) fp_BM_44 (Or.inr ⟨_, rfl⟩) rfl rfl (pb_g hL) rfl d_BM_init_127 ?_
    rw [pb_s hL]
    show Ax g m_BM_init 47 91536 _ (P ++ (.inl (12, [(0, 0), (2, (L + 1)), (2, (L + 2)), (2, (L + 3)), (2, (L + 4)), (2, (L + 5)), (2, (L + 6)), (2, (L + 7)), (2, (L + 8)), (2, (L + 9)), (2, (L + 10)), (0, 0), (0, 0), (0, 0), (0, 0), (0, 0), (0, 0), (0, 0), (0, 0), (0, 0), (0, 0), (0, 0), (2, (L + 11)), (3, 0), (3, 0), (3, 0), (3, 0), (3, 0), (3, 0), (3, 0), (3, 0), (3, 0), (0, 0), (3, 0), (3, 0), (0, 0), (0, 0), (3, 0), (0, 0), (0, 0), (3, 0), (3, 0), (3, 0), (3, 0), (0, 0), (0, 0), (0, 0), (3, 0), (3, 0), (3, 0), (3, 0), (3, 0), (0, 0), (0, 0), (0, 0), (0, 0), (3, 0), (3, 0), (3, 0), (3, 0), (0, 0), (3, 0), (3, 0), (3, 0), (3, 0), (0, 0), (0, 0), (3, 0), (3, 0), (3, 0), (3, 0), (3, 0), (3, 0), (3, 0), (0, 0), (0, 0)])) :: T11) s9 11 521 130 [(0, .ref (gB g + L))] []
    refine a_aload_n (pc := 130) 0 rfl rfl d_BM_init_130 ?_
    refine a_sipush (pc := 131) (1800 : Int32) (by decide) d_BM_init_131 ?_
    refine a_newi (pc := 134) (atype := .int) (kd := 0) (N := 1800) rfl (Or.inl ⟨rfl, rfl⟩) tw54 (by rw [(pb_n hL hm11)]; exact hz9 _ (by omega)) (by decide) (by decide) (by decide) (Nat.le_of_ble_eq_true rfl) (Nat.le_of_ble_eq_true rfl) d_BM_init_134 ?_
    rw [(pb_n hL hm11), pb_push]
    show Ax g m_BM_init 47 91536 _ (P ++ (.inl (12, [(0, 0), (2, (L + 1)), (2, (L + 2)), (2, (L + 3)), (2, (L + 4)), (2, (L + 5)), (2, (L + 6)), (2, (L + 7)), (2, (L + 8)), (2, (L + 9)), (2, (L + 10)), (0, 0), (0, 0), (0, 0), (0, 0), (0, 0), (0, 0), (0, 0), (0, 0), (0, 0), (0, 0), (0, 0), (2, (L + 11)), (3, 0), (3, 0), (3, 0), (3, 0), (3, 0), (3, 0), (3, 0), (3, 0), (3, 0), (0, 0), (3, 0), (3, 0), (0, 0), (0, 0), (3, 0), (0, 0), (0, 0), (3, 0), (3, 0), (3, 0), (3, 0), (0, 0), (0, 0), (0, 0), (3, 0), (3, 0), (3, 0), (3, 0), (3, 0), (0, 0), (0, 0), (0, 0), (0, 0), (3, 0), (3, 0), (3, 0), (3, 0), (0, 0), (3, 0), (3, 0), (3, 0), (3, 0), (0, 0), (0, 0), (3, 0), (3, 0), (3, 0), (3, 0), (3, 0), (3, 0), (3, 0), (0, 0), (0, 0)])) :: (T11 ++ [.inr (0, 1800, [])])) s9 12 2321 136 [(0, .ref (gB g + L))] [.ref (gB g + (L + 12)), .ref (gB g + L)]
    obtain ⟨T12, hT12⟩ : ∃ y : List Sh, y = T11 ++ [.inr (0, 1800, [])] := ⟨_, rfl⟩
    have hm12 : T12.length + 1 = 13 := by rw [hT12, List.length_append]; have := hm11; simp only [List.length_cons, List.length_nil]; omega
    have eT12 : T12 = RT_BM_init_12 L := by rw [hT12, eT11]; rfl
    rw [← hT12]
    refine a_putF (pc := 136) (i := L) (r := (L + 12)) fp_BM_48 (Or.inr ⟨_, rfl⟩) rfl rfl (pb_g hL) rfl d_BM_init_136 ?_
    rw [pb_s hL]
    show Ax g m_BM_init 47 91536 _ (P ++ (.inl (12, [(0, 0), (2, (L + 1)), (2, (L + 2)), (2, (L + 3)), (2, (L + 4)), (2, (L + 5)), (2, (L + 6)), (2, (L + 7)), (2, (L + 8)), (2, (L + 9)), (2, (L + 10)), (0, 0), (0, 0), (0, 0), (0, 0), (0, 0), (0, 0), (0, 0), (0, 0), (0, 0), (0, 0), (0, 0), (2, (L + 11)), (2, (L + 12)), (3, 0), (3, 0), (3, 0), (3, 0), (3, 0), (3, 0), (3, 0), (3, 0), (0, 0), (3, 0), (3, 0), (0, 0), (0, 0), (3, 0), (0, 0), (0, 0), (3, 0), (3, 0), (3, 0), (3, 0), (0, 0), (0, 0), (0, 0), (3, 0), (3, 0), (3, 0), (3, 0), (3, 0), (0, 0), (0, 0), (0, 0), (0, 0), (3, 0), (3, 0), (3, 0), (3, 0), (0, 0), (3, 0), (3, 0), (3, 0), (3, 0), (0, 0), (0, 0), (3, 0), (3, 0), (3, 0), (3, 0), (3, 0), (3, 0), (3, 0), (0, 0), (0, 0)])) :: T12) s9 12 2321 139 [(0, .ref (gB g + L))] []
    refine a_aload_n (pc := 139) 0 rfl rfl d_BM_init_139 ?_
    refine a_sipush (pc := 140) (1800 : Int32) (by decide) d_BM_init_140 ?_
    refine a_newi (pc := 143) (atype := .int) (kd := 0) (N := 1800) rfl (Or.inl ⟨rfl, rfl⟩) tw54 (by rw [(pb_n hL hm12)]; exact hz9 _ (by omega)) (by decide) (by decide) (by decide) (Nat.le_of_ble_eq_true rfl) (Nat.le_of_ble_eq_true rfl) d_BM_init_143 ?_
    rw [(pb_n hL hm12), pb_push]
    show Ax g m_BM_init 47 91536 _ (P ++ (.inl (12, [(0, 0), (2, (L + 1)), (2, (L + 2)), (2, (L + 3)), (2, (L + 4)), (2, (L + 5)), (2, (L + 6)), (2, (L + 7)), (2, (L + 8)), (2, (L + 9)), (2, (L + 10)), (0, 0), (0, 0), (0, 0), (0, 0), (0, 0), (0, 0), (0, 0), (0, 0), (0, 0), (0, 0), (0, 0), (2, (L + 11)), (2, (L + 12)), (3, 0), (3, 0), (3, 0), (3, 0), (3, 0), (3, 0), (3, 0), (3, 0), (0, 0), (3, 0), (3, 0), (0, 0), (0, 0), (3, 0), (0, 0), (0, 0), (3, 0), (3, 0), (3, 0), (3, 0), (0, 0), (0, 0), (0, 0), (3, 0), (3, 0), (3, 0), (3, 0), (3, 0), (0, 0), (0, 0), (0, 0), (0, 0), (3, 0), (3, 0), (3, 0), (3, 0), (0, 0), (3, 0), (3, 0), (3, 0), (3, 0), (0, 0), (0, 0), (3, 0), (3, 0), (3, 0), (3, 0), (3, 0), (3, 0), (3, 0), (0, 0), (0, 0)])) :: (T12 ++ [.inr (0, 1800, [])])) s9 13 4121 145 [(0, .ref (gB g + L))] [.ref (gB g + (L + 13)), .ref (gB g + L)]
    obtain ⟨T13, hT13⟩ : ∃ y : List Sh, y = T12 ++ [.inr (0, 1800, [])] := ⟨_, rfl⟩
    have hm13 : T13.length + 1 = 14 := by rw [hT13, List.length_append]; have := hm12; simp only [List.length_cons, List.length_nil]; omega
    have eT13 : T13 = RT_BM_init_13 L := by rw [hT13, eT12]; rfl
    rw [← hT13]
    refine a_putF (pc := 145) (i := L) (r := (L + 13)) fp_BM_51 (Or.inr ⟨_, rfl⟩) rfl rfl (pb_g hL) rfl d_BM_init_145 ?_
    rw [pb_s hL]
    show Ax g m_BM_init 47 91536 _ (P ++ (.inl (12, [(0, 0), (2, (L + 1)), (2, (L + 2)), (2, (L + 3)), (2, (L + 4)), (2, (L + 5)), (2, (L + 6)), (2, (L + 7)), (2, (L + 8)), (2, (L + 9)), (2, (L + 10)), (0, 0), (0, 0), (0, 0), (0, 0), (0, 0), (0, 0), (0, 0), (0, 0), (0, 0), (0, 0), (0, 0), (2, (L + 11)), (2, (L + 12)), (2, (L + 13)), (3, 0), (3, 0), (3, 0), (3, 0), (3, 0), (3, 0), (3, 0), (0, 0), (3, 0), (3, 0), (0, 0), (0, 0), (3, 0), (0, 0), (0, 0), (3, 0), (3, 0), (3, 0), (3, 0), (0, 0), (0, 0), (0, 0), (3, 0), (3, 0), (3, 0), (3, 0), (3, 0), (0, 0), (0, 0), (0, 0), (0, 0), (3, 0), (3, 0), (3, 0), (3, 0), (0, 0), (3, 0), (3, 0), (3, 0), (3, 0), (0, 0), (0, 0), (3, 0), (3, 0), (3, 0), (3, 0), (3, 0), (3, 0), (3, 0), (0, 0), (0, 0)])) :: T13) s9 13 4121 148 [(0, .ref (gB g + L))] []
    refine a_aload_n (pc := 148) 0 rfl rfl d_BM_init_148 ?_
    refine a_bipush (pc := 149) (6 : Int32) (by decide) d_BM_init_149 ?_
    refine a_newi (pc := 151) (atype := .int) (kd := 0) (N := 6) rfl (Or.inl ⟨rfl, rfl⟩) tw54 (by rw [(pb_n hL hm13)]; exact hz9 _ (by omega)) (by decide) (by decide) (by decide) (Nat.le_of_ble_eq_true rfl) (Nat.le_of_ble_eq_true rfl) d_BM_init_151 ?_
    rw [(pb_n hL hm13), pb_push]
    show Ax g m_BM_init 47 91536 _ (P ++ (.inl (12, [(0, 0), (2, (L + 1)), (2, (L + 2)), (2, (L + 3)), (2, (L + 4)), (2, (L + 5)), (2, (L + 6)), (2, (L + 7)), (2, (L + 8)), (2, (L + 9)), (2, (L + 10)), (0, 0), (0, 0), (0, 0), (0, 0), (0, 0), (0, 0), (0, 0), (0, 0), (0, 0), (0, 0), (0, 0), (2, (L + 11)), (2, (L + 12)), (2, (L + 13)), (3, 0), (3, 0), (3, 0), (3, 0), (3, 0), (3, 0), (3, 0), (0, 0), (3, 0), (3, 0), (0, 0), (0, 0), (3, 0), (0, 0), (0, 0), (3, 0), (3, 0), (3, 0), (3, 0), (0, 0), (0, 0), (0, 0), (3, 0), (3, 0), (3, 0), (3, 0), (3, 0), (0, 0), (0, 0), (0, 0), (0, 0), (3, 0), (3, 0), (3, 0), (3, 0), (0, 0), (3, 0), (3, 0), (3, 0), (3, 0), (0, 0), (0, 0), (3, 0), (3, 0), (3, 0), (3, 0), (3, 0), (3, 0), (3, 0), (0, 0), (0, 0)])) :: (T13 ++ [.inr (0, 6, [])])) s9 14 4127 153 [(0, .ref (gB g + L))] [.ref (gB g + (L + 14)), .ref (gB g + L)]
    obtain ⟨T14, hT14⟩ : ∃ y : List Sh, y = T13 ++ [.inr (0, 6, [])] := ⟨_, rfl⟩
    have hm14 : T14.length + 1 = 15 := by rw [hT14, List.length_append]; have := hm13; simp only [List.length_cons, List.length_nil]; omega
    have eT14 : T14 = RT_BM_init_14 L := by rw [hT14, eT13]; rfl
    rw [← hT14]
    refine a_putF (pc := 153) (i := L) (r := (L + 14)) fp_BM_54 (Or.inr ⟨_, rfl⟩) rfl rfl (pb_g hL) rfl d_BM_init_153 ?_
    rw [pb_s hL]
    show Ax g m_BM_init 47 91536 _ (P ++ (.inl (12, [(0, 0), (2, (L + 1)), (2, (L + 2)), (2, (L + 3)), (2, (L + 4)), (2, (L + 5)), (2, (L + 6)), (2, (L + 7)), (2, (L + 8)), (2, (L + 9)), (2, (L + 10)), (0, 0), (0, 0), (0, 0), (0, 0), (0, 0), (0, 0), (0, 0), (0, 0), (0, 0), (0, 0), (0, 0), (2, (L + 11)), (2, (L + 12)), (2, (L + 13)), (2, (L + 14)), (3, 0), (3, 0), (3, 0), (3, 0), (3, 0), (3, 0), (0, 0), (3, 0), (3, 0), (0, 0), (0, 0), (3, 0), (0, 0), (0, 0), (3, 0), (3, 0), (3, 0), (3, 0), (0, 0), (0, 0), (0, 0), (3, 0), (3, 0), (3, 0), (3, 0), (3, 0), (0, 0), (0, 0), (0, 0), (0, 0), (3, 0), (3, 0), (3, 0), (3, 0), (0, 0), (3, 0), (3, 0), (3, 0), (3, 0), (0, 0), (0, 0), (3, 0), (3, 0), (3, 0), (3, 0), (3, 0), (3, 0), (3, 0), (0, 0), (0, 0)])) :: T14) s9 14 4127 156 [(0, .ref (gB g + L))] []
    refine a_aload_n (pc := 156) 0 rfl rfl d_BM_init_156 ?_
    refine a_bipush (pc := 157) (72 : Int32) (by decide) d_BM_init_157 ?_
    refine a_newi (pc := 159) (atype := .int) (kd := 0) (N := 72) rfl (Or.inl ⟨rfl, rfl⟩) tw54 (by rw [(pb_n hL hm14)]; exact hz9 _ (by omega)) (by decide) (by decide) (by decide) (Nat.le_of_ble_eq_true rfl) (Nat.le_of_ble_eq_true rfl) d_BM_init_159 ?_
    rw [(pb_n hL hm14), pb_push]
    show Ax g m_BM_init 47 91536 _ (P ++ (.inl (12, [(0, 0), (2, (L + 1)), (2, (L + 2)), (2, (L + 3)), (2, (L + 4)), (2, (L + 5)), (2, (L + 6)), (2, (L + 7)), (2, (L + 8)), (2, (L + 9)), (2, (L + 10)), (0, 0), (0, 0), (0, 0), (0, 0), (0, 0), (0, 0), (0, 0), (0, 0), (0, 0), (0, 0), (0, 0), (2, (L + 11)), (2, (L + 12)), (2, (L + 13)), (2, (L + 14)), (3, 0), (3, 0), (3, 0), (3, 0), (3, 0), (3, 0), (0, 0), (3, 0), (3, 0), (0, 0), (0, 0), (3, 0), (0, 0), (0, 0), (3, 0), (3, 0), (3, 0), (3, 0), (0, 0), (0, 0), (0, 0), (3, 0), (3, 0), (3, 0), (3, 0), (3, 0), (0, 0), (0, 0), (0, 0), (0, 0), (3, 0), (3, 0), (3, 0), (3, 0), (0, 0), (3, 0), (3, 0), (3, 0), (3, 0), (0, 0), (0, 0), (3, 0), (3, 0), (3, 0), (3, 0), (3, 0), (3, 0), (3, 0), (0, 0), (0, 0)])) :: (T14 ++ [.inr (0, 72, [])])) s9 15 4199 161 [(0, .ref (gB g + L))] [.ref (gB g + (L + 15)), .ref (gB g + L)]
    obtain ⟨T15, hT15⟩ : ∃ y : List Sh, y = T14 ++ [.inr (0, 72, [])] := ⟨_, rfl⟩
    have hm15 : T15.length + 1 = 16 := by rw [hT15, List.length_append]; have := hm14; simp only [List.length_cons, List.length_nil]; omega
    have eT15 : T15 = RT_BM_init_15 L := by rw [hT15, eT14]; rfl
    rw [← hT15]
    refine a_putF (pc := 161) (i := L) (r := (L + 15)) fp_BM_57 (Or.inr ⟨_, rfl⟩) rfl rfl (pb_g hL) rfl d_BM_init_161 ?_
    rw [pb_s hL]
    show Ax g m_BM_init 47 91536 _ (P ++ (.inl (12, [(0, 0), (2, (L + 1)), (2, (L + 2)), (2, (L + 3)), (2, (L + 4)), (2, (L + 5)), (2, (L + 6)), (2, (L + 7)), (2, (L + 8)), (2, (L + 9)), (2, (L + 10)), (0, 0), (0, 0), (0, 0), (0, 0), (0, 0), (0, 0), (0, 0), (0, 0), (0, 0), (0, 0), (0, 0), (2, (L + 11)), (2, (L + 12)), (2, (L + 13)), (2, (L + 14)), (2, (L + 15)), (3, 0), (3, 0), (3, 0), (3, 0), (3, 0), (0, 0), (3, 0), (3, 0), (0, 0), (0, 0), (3, 0), (0, 0), (0, 0), (3, 0), (3, 0), (3, 0), (3, 0), (0, 0), (0, 0), (0, 0), (3, 0), (3, 0), (3, 0), (3, 0), (3, 0), (0, 0), (0, 0), (0, 0), (0, 0), (3, 0), (3, 0), (3, 0), (3, 0), (0, 0), (3, 0), (3, 0), (3, 0), (3, 0), (0, 0), (0, 0), (3, 0), (3, 0), (3, 0), (3, 0), (3, 0), (3, 0), (3, 0), (0, 0), (0, 0)])) :: T15) s9 15 4199 164 [(0, .ref (gB g + L))] []
    refine a_aload_n (pc := 164) 0 rfl rfl d_BM_init_164 ?_
    refine a_bipush (pc := 165) (72 : Int32) (by decide) d_BM_init_165 ?_
    refine a_newi (pc := 167) (atype := .int) (kd := 0) (N := 72) rfl (Or.inl ⟨rfl, rfl⟩) tw54 (by rw [(pb_n hL hm15)]; exact hz9 _ (by omega)) (by decide) (by decide) (by decide) (Nat.le_of_ble_eq_true rfl) (Nat.le_of_ble_eq_true rfl) d_BM_init_167 ?_
    rw [(pb_n hL hm15), pb_push]
    show Ax g m_BM_init 47 91536 _ (P ++ (.inl (12, [(0, 0), (2, (L + 1)), (2, (L + 2)), (2, (L + 3)), (2, (L + 4)), (2, (L + 5)), (2, (L + 6)), (2, (L + 7)), (2, (L + 8)), (2, (L + 9)), (2, (L + 10)), (0, 0), (0, 0), (0, 0), (0, 0), (0, 0), (0, 0), (0, 0), (0, 0), (0, 0), (0, 0), (0, 0), (2, (L + 11)), (2, (L + 12)), (2, (L + 13)), (2, (L + 14)), (2, (L + 15)), (3, 0), (3, 0), (3, 0), (3, 0), (3, 0), (0, 0), (3, 0), (3, 0), (0, 0), (0, 0), (3, 0), (0, 0), (0, 0), (3, 0), (3, 0), (3, 0), (3, 0), (0, 0), (0, 0), (0, 0), (3, 0), (3, 0), (3, 0), (3, 0), (3, 0), (0, 0), (0, 0), (0, 0), (0, 0), (3, 0), (3, 0), (3, 0), (3, 0), (0, 0), (3, 0), (3, 0), (3, 0), (3, 0), (0, 0), (0, 0), (3, 0), (3, 0), (3, 0), (3, 0), (3, 0), (3, 0), (3, 0), (0, 0), (0, 0)])) :: (T15 ++ [.inr (0, 72, [])])) s9 16 4271 169 [(0, .ref (gB g + L))] [.ref (gB g + (L + 16)), .ref (gB g + L)]
    obtain ⟨T16, hT16⟩ : ∃ y : List Sh, y = T15 ++ [.inr (0, 72, [])] := ⟨_, rfl⟩
    have hm16 : T16.length + 1 = 17 := by rw [hT16, List.length_append]; have := hm15; simp only [List.length_cons, List.length_nil]; omega
    have eT16 : T16 = RT_BM_init_16 L := by rw [hT16, eT15]; rfl
    rw [← hT16]
    refine a_putF (pc := 169) (i := L) (r := (L + 16)) fp_BM_60 (Or.inr ⟨_, rfl⟩) rfl rfl (pb_g hL) rfl d_BM_init_169 ?_
    rw [pb_s hL]
    show Ax g m_BM_init 47 91536 _ (P ++ (.inl (12, [(0, 0), (2, (L + 1)), (2, (L + 2)), (2, (L + 3)), (2, (L + 4)), (2, (L + 5)), (2, (L + 6)), (2, (L + 7)), (2, (L + 8)), (2, (L + 9)), (2, (L + 10)), (0, 0), (0, 0), (0, 0), (0, 0), (0, 0), (0, 0), (0, 0), (0, 0), (0, 0), (0, 0), (0, 0), (2, (L + 11)), (2, (L + 12)), (2, (L + 13)), (2, (L + 14)), (2, (L + 15)), (2, (L + 16)), (3, 0), (3, 0), (3, 0), (3, 0), (0, 0), (3, 0), (3, 0), (0, 0), (0, 0), (3, 0), (0, 0), (0, 0), (3, 0), (3, 0), (3, 0), (3, 0), (0, 0), (0, 0), (0, 0), (3, 0), (3, 0), (3, 0), (3, 0), (3, 0), (0, 0), (0, 0), (0, 0), (0, 0), (3, 0), (3, 0), (3, 0), (3, 0), (0, 0), (3, 0), (3, 0), (3, 0), (3, 0), (0, 0), (0, 0), (3, 0), (3, 0), (3, 0), (3, 0), (3, 0), (3, 0), (3, 0), (0, 0), (0, 0)])) :: T16) s9 16 4271 172 [(0, .ref (gB g + L))] []
    refine a_aload_n (pc := 172) 0 rfl rfl d_BM_init_172 ?_
    refine a_bipush (pc := 173) (72 : Int32) (by decide) d_BM_init_173 ?_
    refine a_newi (pc := 175) (atype := .int) (kd := 0) (N := 72) rfl (Or.inl ⟨rfl, rfl⟩) tw54 (by rw [(pb_n hL hm16)]; exact hz9 _ (by omega)) (by decide) (by decide) (by decide) (Nat.le_of_ble_eq_true rfl) (Nat.le_of_ble_eq_true rfl) d_BM_init_175 ?_
    rw [(pb_n hL hm16), pb_push]
    show Ax g m_BM_init 47 91536 _ (P ++ (.inl (12, [(0, 0), (2, (L + 1)), (2, (L + 2)), (2, (L + 3)), (2, (L + 4)), (2, (L + 5)), (2, (L + 6)), (2, (L + 7)), (2, (L + 8)), (2, (L + 9)), (2, (L + 10)), (0, 0), (0, 0), (0, 0), (0, 0), (0, 0), (0, 0), (0, 0), (0, 0), (0, 0), (0, 0), (0, 0), (2, (L + 11)), (2, (L + 12)), (2, (L + 13)), (2, (L + 14)), (2, (L + 15)), (2, (L + 16)), (3, 0), (3, 0), (3, 0), (3, 0), (0, 0), (3, 0), (3, 0), (0, 0), (0, 0), (3, 0), (0, 0), (0, 0), (3, 0), (3, 0), (3, 0), (3, 0), (0, 0), (0, 0), (0, 0), (3, 0), (3, 0), (3, 0), (3, 0), (3, 0), (0, 0), (0, 0), (0, 0), (0, 0), (3, 0), (3, 0), (3, 0), (3, 0), (0, 0), (3, 0), (3, 0), (3, 0), (3, 0), (0, 0), (0, 0), (3, 0), (3, 0), (3, 0), (3, 0), (3, 0), (3, 0), (3, 0), (0, 0), (0, 0)])) :: (T16 ++ [.inr (0, 72, [])])) s9 17 4343 177 [(0, .ref (gB g + L))] [.ref (gB g + (L + 17)), .ref (gB g + L)]
    obtain ⟨T17, hT17⟩ : ∃ y : List Sh, y = T16 ++ [.inr (0, 72, [])] := ⟨_, rfl⟩
    have hm17 : T17.length + 1 = 18 := by rw [hT17, List.length_append]; have := hm16; simp only [List.length_cons, List.length_nil]; omega
    have eT17 : T17 = RT_BM_init_17 L := by rw [hT17, eT16]; rfl
    rw [← hT17]
    refine a_putF (pc := 177) (i := L) (r := (L + 17)) fp_BM_63 (Or.inr ⟨_, rfl⟩) rfl rfl (pb_g hL) rfl d_BM_init_177 ?_
    rw [pb_s hL]
    show Ax g m_BM_init 47 91536 _ (P ++ (.inl (12, [(0, 0), (2, (L + 1)), (2, (L + 2)), (2, (L + 3)), (2, (L + 4)), (2, (L + 5)), (2, (L + 6)), (2, (L + 7)), (2, (L + 8)), (2, (L + 9)), (2, (L + 10)), (0, 0), (0, 0), (0, 0), (0, 0), (0, 0), (0, 0), (0, 0), (0, 0), (0, 0), (0, 0), (0, 0), (2, (L + 11)), (2, (L + 12)), (2, (L + 13)), (2, (L + 14)), (2, (L + 15)), (2, (L + 16)), (2, (L + 17)), (3, 0), (3, 0), (3, 0), (0, 0), (3, 0), (3, 0), (0, 0), (0, 0), (3, 0), (0, 0), (0, 0), (3, 0), (3, 0), (3, 0), (3, 0), (0, 0), (0, 0), (0, 0), (3, 0), (3, 0), (3, 0), (3, 0), (3, 0), (0, 0), (0, 0), (0, 0), (0, 0), (3, 0), (3, 0), (3, 0), (3, 0), (0, 0), (3, 0), (3, 0), (3, 0), (3, 0), (0, 0), (0, 0), (3, 0), (3, 0), (3, 0), (3, 0), (3, 0), (3, 0), (3, 0), (0, 0), (0, 0)])) :: T17) s9 17 4343 180 [(0, .ref (gB g + L))] []
    refine a_aload_n (pc := 180) 0 rfl rfl d_BM_init_180 ?_
    refine a_sipush (pc := 181) (402 : Int32) (by decide) d_BM_init_181 ?_
    refine a_newi (pc := 184) (atype := .int) (kd := 0) (N := 402) rfl (Or.inl ⟨rfl, rfl⟩) tw54 (by rw [(pb_n hL hm17)]; exact hz9 _ (by omega)) (by decide) (by decide) (by decide) (Nat.le_of_ble_eq_true rfl) (Nat.le_of_ble_eq_true rfl) d_BM_init_184 ?_
    rw [(pb_n hL hm17), pb_push]
    show Ax g m_BM_init 47 91536 _ (P ++ (.inl (12, [(0, 0), (2, (L + 1)), (2, (L + 2)), (2, (L + 3)), (2, (L + 4)), (2, (L + 5)), (2, (L + 6)), (2, (L + 7)), (2, (L + 8)), (2, (L + 9)), (2, (L + 10)), (0, 0), (0, 0), (0, 0), (0, 0), (0, 0), (0, 0), (0, 0), (0, 0), (0, 0), (0, 0), (0, 0), (2, (L + 11)), (2, (L + 12)), (2, (L + 13)), (2, (L + 14)), (2, (L + 15)), (2, (L + 16)), (2, (L + 17)), (3, 0), (3, 0), (3, 0), (0, 0), (3, 0), (3, 0), (0, 0), (0, 0), (3, 0), (0, 0), (0, 0), (3, 0), (3, 0), (3, 0), (3, 0), (0, 0), (0, 0), (0, 0), (3, 0), (3, 0), (3, 0), (3, 0), (3, 0), (0, 0), (0, 0), (0, 0), (0, 0), (3, 0), (3, 0), (3, 0), (3, 0), (0, 0), (3, 0), (3, 0), (3, 0), (3, 0), (0, 0), (0, 0), (3, 0), (3, 0), (3, 0), (3, 0), (3, 0), (3, 0), (3, 0), (0, 0), (0, 0)])) :: (T17 ++ [.inr (0, 402, [])])) s9 18 4745 186 [(0, .ref (gB g + L))] [.ref (gB g + (L + 18)), .ref (gB g + L)]
    obtain ⟨T18, hT18⟩ : ∃ y : List Sh, y = T17 ++ [.inr (0, 402, [])] := ⟨_, rfl⟩
    have hm18 : T18.length + 1 = 19 := by rw [hT18, List.length_append]; have := hm17; simp only [List.length_cons, List.length_nil]; omega
    have eT18 : T18 = RT_BM_init_18 L := by rw [hT18, eT17]; rfl
    rw [← hT18]
    refine a_putF (pc := 186) (i := L) (r := (L + 18)) fp_BM_66 (Or.inr ⟨_, rfl⟩) rfl rfl (pb_g hL) rfl d_BM_init_186 ?_
    rw [pb_s hL]
    show Ax g m_BM_init 47 91536 _ (P ++ (.inl (12, [(0, 0), (2, (L + 1)), (2, (L + 2)), (2, (L + 3)), (2, (L + 4)), (2, (L + 5)), (2, (L + 6)), (2, (L + 7)), (2, (L + 8)), (2, (L + 9)), (2, (L + 10)), (0, 0), (0, 0), (0, 0), (0, 0), (0, 0), (0, 0), (0, 0), (0, 0), (0, 0), (0, 0), (0, 0), (2, (L + 11)), (2, (L + 12)), (2, (L + 13)), (2, (L + 14)), (2, (L + 15)), (2, (L + 16)), (2, (L + 17)), (2, (L + 18)), (3, 0), (3, 0), (0, 0), (3, 0), (3, 0), (0, 0), (0, 0), (3, 0), (0, 0), (0, 0), (3, 0), (3, 0), (3, 0), (3, 0), (0, 0), (0, 0), (0, 0), (3, 0), (3, 0), (3, 0), (3, 0), (3, 0), (0, 0), (0, 0), (0, 0), (0, 0), (3, 0), (3, 0), (3, 0), (3, 0), (0, 0), (3, 0), (3, 0), (3, 0), (3, 0), (0, 0), (0, 0), (3, 0), (3, 0), (3, 0), (3, 0), (3, 0), (3, 0), (3, 0), (0, 0), (0, 0)])) :: T18) s9 18 4745 189 [(0, .ref (gB g + L))] []
    refine a_aload_n (pc := 189) 0 rfl rfl d_BM_init_189 ?_
    refine a_bipush (pc := 190) (8 : Int32) (by decide) d_BM_init_190 ?_
    refine a_newi (pc := 192) (atype := .long) (kd := 1) (N := 8) rfl (Or.inr (Or.inl ⟨rfl, rfl⟩)) tw186 (by rw [(pb_n hL hm18)]; exact hz9 _ (by omega)) (by decide) (by decide) (by decide) (Nat.le_of_ble_eq_true rfl) (Nat.le_of_ble_eq_true rfl) d_BM_init_192 ?_
    rw [(pb_n hL hm18), pb_push]
    show Ax g m_BM_init 47 91536 _ (P ++ (.inl (12, [(0, 0), (2, (L + 1)), (2, (L + 2)), (2, (L + 3)), (2, (L + 4)), (2, (L + 5)), (2, (L + 6)), (2, (L + 7)), (2, (L + 8)), (2, (L + 9)), (2, (L + 10)), (0, 0), (0, 0), (0, 0), (0, 0), (0, 0), (0, 0), (0, 0), (0, 0), (0, 0), (0, 0), (0, 0), (2, (L + 11)), (2, (L + 12)), (2, (L + 13)), (2, (L + 14)), (2, (L + 15)), (2, (L + 16)), (2, (L + 17)), (2, (L + 18)), (3, 0), (3, 0), (0, 0), (3, 0), (3, 0), (0, 0), (0, 0), (3, 0), (0, 0), (0, 0), (3, 0), (3, 0), (3, 0), (3, 0), (0, 0), (0, 0), (0, 0), (3, 0), (3, 0), (3, 0), (3, 0), (3, 0), (0, 0), (0, 0), (0, 0), (0, 0), (3, 0), (3, 0), (3, 0), (3, 0), (0, 0), (3, 0), (3, 0), (3, 0), (3, 0), (0, 0), (0, 0), (3, 0), (3, 0), (3, 0), (3, 0), (3, 0), (3, 0), (3, 0), (0, 0), (0, 0)])) :: (T18 ++ [.inr (1, 8, [])])) s9 19 4753 194 [(0, .ref (gB g + L))] [.ref (gB g + (L + 19)), .ref (gB g + L)]
    obtain ⟨T19, hT19⟩ : ∃ y : List Sh, y = T18 ++ [.inr (1, 8, [])] := ⟨_, rfl⟩
    have hm19 : T19.length + 1 = 20 := by rw [hT19, List.length_append]; have := hm18; simp only [List.length_cons, List.length_nil]; omega
    have eT19 : T19 = RT_BM_init_19 L := by rw [hT19, eT18]; rfl
    rw [← hT19]
    refine a_putF (pc := 194) (i := L) (r := (L + 19)) fp_BM_69 (Or.inr ⟨_, rfl⟩) rfl rfl (pb_g hL) rfl d_BM_init_194 ?_
    rw [pb_s hL]
    show Ax g m_BM_init 47 91536 _ (P ++ (.inl (12, [(0, 0), (2, (L + 1)), (2, (L + 2)), (2, (L + 3)), (2, (L + 4)), (2, (L + 5)), (2, (L + 6)), (2, (L + 7)), (2, (L + 8)), (2, (L + 9)), (2, (L + 10)), (0, 0), (0, 0), (0, 0), (0, 0), (0, 0), (0, 0), (0, 0), (0, 0), (0, 0), (0, 0), (0, 0), (2, (L + 11)), (2, (L + 12)), (2, (L + 13)), (2, (L + 14)), (2, (L + 15)), (2, (L + 16)), (2, (L + 17)), (2, (L + 18)), (2, (L + 19)), (3, 0), (0, 0), (3, 0), (3, 0), (0, 0), (0, 0), (3, 0), (0, 0), (0, 0), (3, 0), (3, 0), (3, 0), (3, 0), (0, 0), (0, 0), (0, 0), (3, 0), (3, 0), (3, 0), (3, 0), (3, 0), (0, 0), (0, 0), (0, 0), (0, 0), (3, 0), (3, 0), (3, 0), (3, 0), (0, 0), (3, 0), (3, 0), (3, 0), (3, 0), (0, 0), (0, 0), (3, 0), (3, 0), (3, 0), (3, 0), (3, 0), (3, 0), (3, 0), (0, 0), (0, 0)])) :: T19) s9 19 4753 197 [(0, .ref (gB g + L))] []
    refine a_aload_n (pc := 197) 0 rfl rfl d_BM_init_197 ?_
    refine a_sipush (pc := 198) (300 : Int32) (by decide) d_BM_init_198 ?_
    refine a_newi (pc := 201) (atype := .long) (kd := 1) (N := 300) rfl (Or.inr (Or.inl ⟨rfl, rfl⟩)) tw186 (by rw [(pb_n hL hm19)]; exact hz9 _ (by omega)) (by decide) (by decide) (by decide) (Nat.le_of_ble_eq_true rfl) (Nat.le_of_ble_eq_true rfl) d_BM_init_201 ?_
    rw [(pb_n hL hm19), pb_push]
    show Ax g m_BM_init 47 91536 _ (P ++ (.inl (12, [(0, 0), (2, (L + 1)), (2, (L + 2)), (2, (L + 3)), (2, (L + 4)), (2, (L + 5)), (2, (L + 6)), (2, (L + 7)), (2, (L + 8)), (2, (L + 9)), (2, (L + 10)), (0, 0), (0, 0), (0, 0), (0, 0), (0, 0), (0, 0), (0, 0), (0, 0), (0, 0), (0, 0), (0, 0), (2, (L + 11)), (2, (L + 12)), (2, (L + 13)), (2, (L + 14)), (2, (L + 15)), (2, (L + 16)), (2, (L + 17)), (2, (L + 18)), (2, (L + 19)), (3, 0), (0, 0), (3, 0), (3, 0), (0, 0), (0, 0), (3, 0), (0, 0), (0, 0), (3, 0), (3, 0), (3, 0), (3, 0), (0, 0), (0, 0), (0, 0), (3, 0), (3, 0), (3, 0), (3, 0), (3, 0), (0, 0), (0, 0), (0, 0), (0, 0), (3, 0), (3, 0), (3, 0), (3, 0), (0, 0), (3, 0), (3, 0), (3, 0), (3, 0), (0, 0), (0, 0), (3, 0), (3, 0), (3, 0), (3, 0), (3, 0), (3, 0), (3, 0), (0, 0), (0, 0)])) :: (T19 ++ [.inr (1, 300, [])])) s9 20 5053 203 [(0, .ref (gB g + L))] [.ref (gB g + (L + 20)), .ref (gB g + L)]
    obtain ⟨T20, hT20⟩ : ∃ y : List Sh, y = T19 ++ [.inr (1, 300, [])] := ⟨_, rfl⟩
    have hm20 : T20.length + 1 = 21 := by rw [hT20, List.length_append]; have := hm19; simp only [List.length_cons, List.length_nil]; omega
    have eT20 : T20 = RT_BM_init_20 L := by rw [hT20, eT19]; rfl
    rw [← hT20]
    refine a_putF (pc := 203) (i := L) (r := (L + 20)) fp_BM_73 (Or.inr ⟨_, rfl⟩) rfl rfl (pb_g hL) rfl d_BM_init_203 ?_
    rw [pb_s hL]
    show Ax g m_BM_init 47 91536 _ (P ++ (.inl (12, [(0, 0), (2, (L + 1)), (2, (L + 2)), (2, (L + 3)), (2, (L + 4)), (2, (L + 5)), (2, (L + 6)), (2, (L + 7)), (2, (L + 8)), (2, (L + 9)), (2, (L + 10)), (0, 0), (0, 0), (0, 0), (0, 0), (0, 0), (0, 0), (0, 0), (0, 0), (0, 0), (0, 0), (0, 0), (2, (L + 11)), (2, (L + 12)), (2, (L + 13)), (2, (L + 14)), (2, (L + 15)), (2, (L + 16)), (2, (L + 17)), (2, (L + 18)), (2, (L + 19)), (2, (L + 20)), (0, 0), (3, 0), (3, 0), (0, 0), (0, 0), (3, 0), (0, 0), (0, 0), (3, 0), (3, 0), (3, 0), (3, 0), (0, 0), (0, 0), (0, 0), (3, 0), (3, 0), (3, 0), (3, 0), (3, 0), (0, 0), (0, 0), (0, 0), (0, 0), (3, 0), (3, 0), (3, 0), (3, 0), (0, 0), (3, 0), (3, 0), (3, 0), (3, 0), (0, 0), (0, 0), (3, 0), (3, 0), (3, 0), (3, 0), (3, 0), (3, 0), (3, 0), (0, 0), (0, 0)])) :: T20) s9 20 5053 206 [(0, .ref (gB g + L))] []
    refine a_aload_n (pc := 206) 0 rfl rfl d_BM_init_206 ?_
    refine a_iconst (pc := 207) (3 : Int32) (by decide) d_BM_init_207 ?_
    refine a_newi (pc := 208) (atype := .int) (kd := 0) (N := 3) rfl (Or.inl ⟨rfl, rfl⟩) tw54 (by rw [(pb_n hL hm20)]; exact hz9 _ (by omega)) (by decide) (by decide) (by decide) (Nat.le_of_ble_eq_true rfl) (Nat.le_of_ble_eq_true rfl) d_BM_init_208 ?_
    rw [(pb_n hL hm20), pb_push]
    show Ax g m_BM_init 47 91536 _ (P ++ (.inl (12, [(0, 0), (2, (L + 1)), (2, (L + 2)), (2, (L + 3)), (2, (L + 4)), (2, (L + 5)), (2, (L + 6)), (2, (L + 7)), (2, (L + 8)), (2, (L + 9)), (2, (L + 10)), (0, 0), (0, 0), (0, 0), (0, 0), (0, 0), (0, 0), (0, 0), (0, 0), (0, 0), (0, 0), (0, 0), (2, (L + 11)), (2, (L + 12)), (2, (L + 13)), (2, (L + 14)), (2, (L + 15)), (2, (L + 16)), (2, (L + 17)), (2, (L + 18)), (2, (L + 19)), (2, (L + 20)), (0, 0), (3, 0), (3, 0), (0, 0), (0, 0), (3, 0), (0, 0), (0, 0), (3, 0), (3, 0), (3, 0), (3, 0), (0, 0), (0, 0), (0, 0), (3, 0), (3, 0), (3, 0), (3, 0), (3, 0), (0, 0), (0, 0), (0, 0), (0, 0), (3, 0), (3, 0), (3, 0), (3, 0), (0, 0), (3, 0), (3, 0), (3, 0), (3, 0), (0, 0), (0, 0), (3, 0), (3, 0), (3, 0), (3, 0), (3, 0), (3, 0), (3, 0), (0, 0), (0, 0)])) :: (T20 ++ [.inr (0, 3, [])])) s9 21 5056 210 [(0, .ref (gB g + L))] [.ref (gB g + (L + 21)), .ref (gB g + L)]
    obtain ⟨T21, hT21⟩ : ∃ y : List Sh, y = T20 ++ [.inr (0, 3, [])] := ⟨_, rfl⟩
    have hm21 : T21.length + 1 = 22 := by rw [hT21, List.length_append]; have := hm20; simp only [List.length_cons, List.length_nil]; omega
    have eT21 : T21 = RT_BM_init_21 L := by rw [hT21, eT20]; rfl
    rw [← hT21]
    refine a_putF (pc := 210) (i := L) (r := (L + 21)) fp_BM_76 (Or.inr ⟨_, rfl⟩) rfl rfl (pb_g hL) rfl d_BM_init_210 ?_
    rw [pb_s hL]
    show Ax g m_BM_init 47 91536 _ (P ++ (.inl (12, [(0, 0), (2, (L + 1)), (2, (L + 2)), (2, (L + 3)), (2, (L + 4)), (2, (L + 5)), (2, (L + 6)), (2, (L + 7)), (2, (L + 8)), (2, (L + 9)), (2, (L + 10)), (0, 0), (0, 0), (0, 0), (0, 0), (0, 0), (0, 0), (0, 0), (0, 0), (0, 0), (0, 0), (0, 0), (2, (L + 11)), (2, (L + 12)), (2, (L + 13)), (2, (L + 14)), (2, (L + 15)), (2, (L + 16)), (2, (L + 17)), (2, (L + 18)), (2, (L + 19)), (2, (L + 20)), (0, 0), (2, (L + 21)), (3, 0), (0, 0), (0, 0), (3, 0), (0, 0), (0, 0), (3, 0), (3, 0), (3, 0), (3, 0), (0, 0), (0, 0), (0, 0), (3, 0), (3, 0), (3, 0), (3, 0), (3, 0), (0, 0), (0, 0), (0, 0), (0, 0), (3, 0), (3, 0), (3, 0), (3, 0), (0, 0), (3, 0), (3, 0), (3, 0), (3, 0), (0, 0), (0, 0), (3, 0), (3, 0), (3, 0), (3, 0), (3, 0), (3, 0), (3, 0), (0, 0), (0, 0)])) :: T21) s9 21 5056 213 [(0, .ref (gB g + L))] []
    refine a_aload_n (pc := 213) 0 rfl rfl d_BM_init_213 ?_
    refine a_iconst (pc := 214) (3 : Int32) (by decide) d_BM_init_214 ?_
    refine a_newi (pc := 215) (atype := .long) (kd := 1) (N := 3) rfl (Or.inr (Or.inl ⟨rfl, rfl⟩)) tw186 (by rw [(pb_n hL hm21)]; exact hz9 _ (by omega)) (by decide) (by decide) (by decide) (Nat.le_of_ble_eq_true rfl) (Nat.le_of_ble_eq_true rfl) d_BM_init_215 ?_
    rw [(pb_n hL hm21), pb_push]
    show Ax g m_BM_init 47 91536 _ (P ++ (.inl (12, [(0, 0), (2, (L + 1)), (2, (L + 2)), (2, (L + 3)), (2, (L + 4)), (2, (L + 5)), (2, (L + 6)), (2, (L + 7)), (2, (L + 8)), (2, (L + 9)), (2, (L + 10)), (0, 0), (0, 0), (0, 0), (0, 0), (0, 0), (0, 0), (0, 0), (0, 0), (0, 0), (0, 0), (0, 0), (2, (L + 11)), (2, (L + 12)), (2, (L + 13)), (2, (L + 14)), (2, (L + 15)), (2, (L + 16)), (2, (L + 17)), (2, (L + 18)), (2, (L + 19)), (2, (L + 20)), (0, 0), (2, (L + 21)), (3, 0), (0, 0), (0, 0), (3, 0), (0, 0), (0, 0), (3, 0), (3, 0), (3, 0), (3, 0), (0, 0), (0, 0), (0, 0), (3, 0), (3, 0), (3, 0), (3, 0), (3, 0), (0, 0), (0, 0), (0, 0), (0, 0), (3, 0), (3, 0), (3, 0), (3, 0), (0, 0), (3, 0), (3, 0), (3, 0), (3, 0), (0, 0), (0, 0), (3, 0), (3, 0), (3, 0), (3, 0), (3, 0), (3, 0), (3, 0), (0, 0), (0, 0)])) :: (T21 ++ [.inr (1, 3, [])])) s9 22 5059 217 [(0, .ref (gB g + L))] [.ref (gB g + (L + 22)), .ref (gB g + L)]
    obtain ⟨T22, hT22⟩ : ∃ y : List Sh, y = T21 ++ [.inr (1, 3, [])] := ⟨_, rfl⟩
    have hm22 : T22.length + 1 = 23 := by rw [hT22, List.length_append]; have := hm21; simp only [List.length_cons, List.length_nil]; omega
    have eT22 : T22 = RT_BM_init_22 L := by rw [hT22, eT21]; rfl
    rw [← hT22]
    refine a_putF (pc := 217) (i := L) (r := (L + 22)) fp_BM_79 (Or.inr ⟨_, rfl⟩) rfl rfl (pb_g hL) rfl d_BM_init_217 ?_
    rw [pb_s hL]
    show Ax g m_BM_init 47 91536 _ (P ++ (.inl (12, [(0, 0), (2, (L + 1)), (2, (L + 2)), (2, (L + 3)), (2, (L + 4)), (2, (L + 5)), (2, (L + 6)), (2, (L + 7)), (2, (L + 8)), (2, (L + 9)), (2, (L + 10)), (0, 0), (0, 0), (0, 0), (0, 0), (0, 0), (0, 0), (0, 0), (0, 0), (0, 0), (0, 0), (0, 0), (2, (L + 11)), (2, (L + 12)), (2, (L + 13)), (2, (L + 14)), (2, (L + 15)), (2, (L + 16)), (2, (L + 17)), (2, (L + 18)), (2, (L + 19)), (2, (L + 20)), (0, 0), (2, (L + 21)), (2, (L + 22)), (0, 0), (0, 0), (3, 0), (0, 0), (0, 0), (3, 0), (3, 0), (3, 0), (3, 0), (0, 0), (0, 0), (0, 0), (3, 0), (3, 0), (3, 0), (3, 0), (3, 0), (0, 0), (0, 0), (0, 0), (0, 0), (3, 0), (3, 0), (3, 0), (3, 0), (0, 0), (3, 0), (3, 0), (3, 0), (3, 0), (0, 0), (0, 0), (3, 0), (3, 0), (3, 0), (3, 0), (3, 0), (3, 0), (3, 0), (0, 0), (0, 0)])) :: T22) s9 22 5059 220 [(0, .ref (gB g + L))] []
    refine a_aload_n (pc := 220) 0 rfl rfl d_BM_init_220 ?_
    refine a_iconst (pc := 221) (3 : Int32) (by decide) d_BM_init_221 ?_
    refine a_newi (pc := 222) (atype := .int) (kd := 0) (N := 3) rfl (Or.inl ⟨rfl, rfl⟩) tw54 (by rw [(pb_n hL hm22)]; exact hz9 _ (by omega)) (by decide) (by decide) (by decide) (Nat.le_of_ble_eq_true rfl) (Nat.le_of_ble_eq_true rfl) d_BM_init_222 ?_
    rw [(pb_n hL hm22), pb_push]
    show Ax g m_BM_init 47 91536 _ (P ++ (.inl (12, [(0, 0), (2, (L + 1)), (2, (L + 2)), (2, (L + 3)), (2, (L + 4)), (2, (L + 5)), (2, (L + 6)), (2, (L + 7)), (2, (L + 8)), (2, (L + 9)), (2, (L + 10)), (0, 0), (0, 0), (0, 0), (0, 0), (0, 0), (0, 0), (0, 0), (0, 0), (0, 0), (0, 0), (0, 0), (2, (L + 11)), (2, (L + 12)), (2, (L + 13)), (2, (L + 14)), (2, (L + 15)), (2, (L + 16)), (2, (L + 17)), (2, (L + 18)), (2, (L + 19)), (2, (L + 20)), (0, 0), (2, (L + 21)), (2, (L + 22)), (0, 0), (0, 0), (3, 0), (0, 0), (0, 0), (3, 0), (3, 0), (3, 0), (3, 0), (0, 0), (0, 0), (0, 0), (3, 0), (3, 0), (3, 0), (3, 0), (3, 0), (0, 0), (0, 0), (0, 0), (0, 0), (3, 0), (3, 0), (3, 0), (3, 0), (0, 0), (3, 0), (3, 0), (3, 0), (3, 0), (0, 0), (0, 0), (3, 0), (3, 0), (3, 0), (3, 0), (3, 0), (3, 0), (3, 0), (0, 0), (0, 0)])) :: (T22 ++ [.inr (0, 3, [])])) s9 23 5062 224 [(0, .ref (gB g + L))] [.ref (gB g + (L + 23)), .ref (gB g + L)]
    obtain ⟨T23, hT23⟩ : ∃ y : List Sh, y = T22 ++ [.inr (0, 3, [])] := ⟨_, rfl⟩
    have hm23 : T23.length + 1 = 24 := by rw [hT23, List.length_append]; have := hm22; simp only [List.length_cons, List.length_nil]; omega
    have eT23 : T23 = RT_BM_init_23 L := by rw [hT23, eT22]; rfl
    rw [← hT23]
    refine a_putF (pc := 224) (i := L) (r := (L + 23)) fp_BM_82 (Or.inr ⟨_, rfl⟩) rfl rfl (pb_g hL) rfl d_BM_init_224 ?_
    rw [pb_s hL]
    show Ax g m_BM_init 47 91536 _ (P ++ (.inl (12, [(0, 0), (2, (L + 1)), (2, (L + 2)), (2, (L + 3)), (2, (L + 4)), (2, (L + 5)), (2, (L + 6)), (2, (L + 7)), (2, (L + 8)), (2, (L + 9)), (2, (L + 10)), (0, 0), (0, 0), (0, 0), (0, 0), (0, 0), (0, 0), (0, 0), (0, 0), (0, 0), (0, 0), (0, 0), (2, (L + 11)), (2, (L + 12)), (2, (L + 13)), (2, (L + 14)), (2, (L + 15)), (2, (L + 16)), (2, (L + 17)), (2, (L + 18)), (2, (L + 19)), (2, (L + 20)), (0, 0), (2, (L + 21)), (2, (L + 22)), (0, 0), (0, 0), (2, (L + 23)), (0, 0), (0, 0), (3, 0), (3, 0), (3, 0), (3, 0), (0, 0), (0, 0), (0, 0), (3, 0), (3, 0), (3, 0), (3, 0), (3, 0), (0, 0), (0, 0), (0, 0), (0, 0), (3, 0), (3, 0), (3, 0), (3, 0), (0, 0), (3, 0), (3, 0), (3, 0), (3, 0), (0, 0), (0, 0), (3, 0), (3, 0), (3, 0), (3, 0), (3, 0), (3, 0), (3, 0), (0, 0), (0, 0)])) :: T23) s9 23 5062 227 [(0, .ref (gB g + L))] []
    refine a_aload_n (pc := 227) 0 rfl rfl d_BM_init_227 ?_
    refine a_ldc (pc := 228) tw1249 d_BM_init_228 ?_
    refine a_newi (pc := 230) (atype := .int) (kd := 0) (N := 54872) rfl (Or.inl ⟨rfl, rfl⟩) tw54 (by rw [(pb_n hL hm23)]; exact hz9 _ (by omega)) (by decide) (by decide) (by decide) (Nat.le_of_ble_eq_true rfl) (Nat.le_of_ble_eq_true rfl) d_BM_init_230 ?_
    rw [(pb_n hL hm23), pb_push]
    show Ax g m_BM_init 47 91536 _ (P ++ (.inl (12, [(0, 0), (2, (L + 1)), (2, (L + 2)), (2, (L + 3)), (2, (L + 4)), (2, (L + 5)), (2, (L + 6)), (2, (L + 7)), (2, (L + 8)), (2, (L + 9)), (2, (L + 10)), (0, 0), (0, 0), (0, 0), (0, 0), (0, 0), (0, 0), (0, 0), (0, 0), (0, 0), (0, 0), (0, 0), (2, (L + 11)), (2, (L + 12)), (2, (L + 13)), (2, (L + 14)), (2, (L + 15)), (2, (L + 16)), (2, (L + 17)), (2, (L + 18)), (2, (L + 19)), (2, (L + 20)), (0, 0), (2, (L + 21)), (2, (L + 22)), (0, 0), (0, 0), (2, (L + 23)), (0, 0), (0, 0), (3, 0), (3, 0), (3, 0), (3, 0), (0, 0), (0, 0), (0, 0), (3, 0), (3, 0), (3, 0), (3, 0), (3, 0), (0, 0), (0, 0), (0, 0), (0, 0), (3, 0), (3, 0), (3, 0), (3, 0), (0, 0), (3, 0), (3, 0), (3, 0), (3, 0), (0, 0), (0, 0), (3, 0), (3, 0), (3, 0), (3, 0), (3, 0), (3, 0), (3, 0), (0, 0), (0, 0)])) :: (T23 ++ [.inr (0, 54872, [])])) s9 24 59934 232 [(0, .ref (gB g + L))] [.ref (gB g + (L + 24)), .ref (gB g + L)]
    obtain ⟨T24, hT24⟩ : ∃ y : List Sh, y = T23 ++ [.inr (0, 54872, [])] := ⟨_, rfl⟩
    have hm24 : T24.length + 1 = 25 := by rw [hT24, List.length_append]; have := hm23; simp only [List.length_cons, List.length_nil]; omega
    have eT24 : T24 = RT_BM_init_24 L := by rw [hT24, eT23]; rfl
    rw [← hT24]
    refine a_putF (pc := 232) (i := L) (r := (L + 24)) fp_BM_86 (Or.inr ⟨_, rfl⟩) rfl rfl (pb_g hL) rfl d_BM_init_232 ?_
    rw [pb_s hL]
    show Ax g m_BM_init 47 91536 _ (P ++ (.inl (12, [(0, 0), (2, (L + 1)), (2, (L + 2)), (2, (L + 3)), (2, (L + 4)), (2, (L + 5)), (2, (L + 6)), (2, (L + 7)), (2, (L + 8)), (2, (L + 9)), (2, (L + 10)), (0, 0), (0, 0), (0, 0), (0, 0), (0, 0), (0, 0), (0, 0), (0, 0), (0, 0), (0, 0), (0, 0), (2, (L + 11)), (2, (L + 12)), (2, (L + 13)), (2, (L + 14)), (2, (L + 15)), (2, (L + 16)), (2, (L + 17)), (2, (L + 18)), (2, (L + 19)), (2, (L + 20)), (0, 0), (2, (L + 21)), (2, (L + 22)), (0, 0), (0, 0), (2, (L + 23)), (0, 0), (0, 0), (2, (L + 24)), (3, 0), (3, 0), (3, 0), (0, 0), (0, 0), (0, 0), (3, 0), (3, 0), (3, 0), (3, 0), (3, 0), (0, 0), (0, 0), (0, 0), (0, 0), (3, 0), (3, 0), (3, 0), (3, 0), (0, 0), (3, 0), (3, 0), (3, 0), (3, 0), (0, 0), (0, 0), (3, 0), (3, 0), (3, 0), (3, 0), (3, 0), (3, 0), (3, 0), (0, 0), (0, 0)])) :: T24) s9 24 59934 235 [(0, .ref (gB g + L))] []
    refine a_aload_n (pc := 235) 0 rfl rfl d_BM_init_235 ?_
    refine a_sipush (pc := 236) (4001 : Int32) (by decide) d_BM_init_236 ?_
    refine a_newi (pc := 239) (atype := .int) (kd := 0) (N := 4001) rfl (Or.inl ⟨rfl, rfl⟩) tw54 (by rw [(pb_n hL hm24)]; exact hz9 _ (by omega)) (by decide) (by decide) (by decide) (Nat.le_of_ble_eq_true rfl) (Nat.le_of_ble_eq_true rfl) d_BM_init_239 ?_
    rw [(pb_n hL hm24), pb_push]
    show Ax g m_BM_init 47 91536 _ (P ++ (.inl (12, [(0, 0), (2, (L + 1)), (2, (L + 2)), (2, (L + 3)), (2, (L + 4)), (2, (L + 5)), (2, (L + 6)), (2, (L + 7)), (2, (L + 8)), (2, (L + 9)), (2, (L + 10)), (0, 0), (0, 0), (0, 0), (0, 0), (0, 0), (0, 0), (0, 0), (0, 0), (0, 0), (0, 0), (0, 0), (2, (L + 11)), (2, (L + 12)), (2, (L + 13)), (2, (L + 14)), (2, (L + 15)), (2, (L + 16)), (2, (L + 17)), (2, (L + 18)), (2, (L + 19)), (2, (L + 20)), (0, 0), (2, (L + 21)), (2, (L + 22)), (0, 0), (0, 0), (2, (L + 23)), (0, 0), (0, 0), (2, (L + 24)), (3, 0), (3, 0), (3, 0), (0, 0), (0, 0), (0, 0), (3, 0), (3, 0), (3, 0), (3, 0), (3, 0), (0, 0), (0, 0), (0, 0), (0, 0), (3, 0), (3, 0), (3, 0), (3, 0), (0, 0), (3, 0), (3, 0), (3, 0), (3, 0), (0, 0), (0, 0), (3, 0), (3, 0), (3, 0), (3, 0), (3, 0), (3, 0), (3, 0), (0, 0), (0, 0)])) :: (T24 ++ [.inr (0, 4001, [])])) s9 25 63935 241 [(0, .ref (gB g + L))] [.ref (gB g + (L + 25)), .ref (gB g + L)]
    obtain ⟨T25, hT25⟩ : ∃ y : List Sh, y = T24 ++ [.inr (0, 4001, [])] := ⟨_, rfl⟩
    have hm25 : T25.length + 1 = 26 := by rw [hT25, List.length_append]; have := hm24; simp only [List.length_cons, List.length_nil]; omega
    have eT25 : T25 = RT_BM_init_25 L := by rw [hT25, eT24]; rfl
    rw [← hT25]
    refine a_putF (pc := 241) (i := L) (r := (L + 25)) fp_BM_89 (Or.inr ⟨_, rfl⟩) rfl rfl (pb_g hL) rfl d_BM_init_241 ?_
    rw [pb_s hL]
    show Ax g m_BM_init 47 91536 _ (P ++ (.inl (12, [(0, 0), (2, (L + 1)), (2, (L + 2)), (2, (L + 3)), (2, (L + 4)), (2, (L + 5)), (2, (L + 6)), (2, (L + 7)), (2, (L + 8)), (2, (L + 9)), (2, (L + 10)), (0, 0), (0, 0), (0, 0), (0, 0), (0, 0), (0, 0), (0, 0), (0, 0), (0, 0), (0, 0), (0, 0), (2, (L + 11)), (2, (L + 12)), (2, (L + 13)), (2, (L + 14)), (2, (L + 15)), (2, (L + 16)), (2, (L + 17)), (2, (L + 18)), (2, (L + 19)), (2, (L + 20)), (0, 0), (2, (L + 21)), (2, (L + 22)), (0, 0), (0, 0), (2, (L + 23)), (0, 0), (0, 0), (2, (L + 24)), (2, (L + 25)), (3, 0), (3, 0), (0, 0), (0, 0), (0, 0), (3, 0), (3, 0), (3, 0), (3, 0), (3, 0), (0, 0), (0, 0), (0, 0), (0, 0), (3, 0), (3, 0), (3, 0), (3, 0), (0, 0), (3, 0), (3, 0), (3, 0), (3, 0), (0, 0), (0, 0), (3, 0), (3, 0), (3, 0), (3, 0), (3, 0), (3, 0), (3, 0), (0, 0), (0, 0)])) :: T25) s9 25 63935 244 [(0, .ref (gB g + L))] []
    refine a_aload_n (pc := 244) 0 rfl rfl d_BM_init_244 ?_
    refine a_sipush (pc := 245) (4001 : Int32) (by decide) d_BM_init_245 ?_
    refine a_newi (pc := 248) (atype := .int) (kd := 0) (N := 4001) rfl (Or.inl ⟨rfl, rfl⟩) tw54 (by rw [(pb_n hL hm25)]; exact hz9 _ (by omega)) (by decide) (by decide) (by decide) (Nat.le_of_ble_eq_true rfl) (Nat.le_of_ble_eq_true rfl) d_BM_init_248 ?_
    rw [(pb_n hL hm25), pb_push]
    show Ax g m_BM_init 47 91536 _ (P ++ (.inl (12, [(0, 0), (2, (L + 1)), (2, (L + 2)), (2, (L + 3)), (2, (L + 4)), (2, (L + 5)), (2, (L + 6)), (2, (L + 7)), (2, (L + 8)), (2, (L + 9)), (2, (L + 10)), (0, 0), (0, 0), (0, 0), (0, 0), (0, 0), (0, 0), (0, 0), (0, 0), (0, 0), (0, 0), (0, 0), (2, (L + 11)), (2, (L + 12)), (2, (L + 13)), (2, (L + 14)), (2, (L + 15)), (2, (L + 16)), (2, (L + 17)), (2, (L + 18)), (2, (L + 19)), (2, (L + 20)), (0, 0), (2, (L + 21)), (2, (L + 22)), (0, 0), (0, 0), (2, (L + 23)), (0, 0), (0, 0), (2, (L + 24)), (2, (L + 25)), (3, 0), (3, 0), (0, 0), (0, 0), (0, 0), (3, 0), (3, 0), (3, 0), (3, 0), (3, 0), (0, 0), (0, 0), (0, 0), (0, 0), (3, 0), (3, 0), (3, 0), (3, 0), (0, 0), (3, 0), (3, 0), (3, 0), (3, 0), (0, 0), (0, 0), (3, 0), (3, 0), (3, 0), (3, 0), (3, 0), (3, 0), (3, 0), (0, 0), (0, 0)])) :: (T25 ++ [.inr (0, 4001, [])])) s9 26 67936 250 [(0, .ref (gB g + L))] [.ref (gB g + (L + 26)), .ref (gB g + L)]
    obtain ⟨T26, hT26⟩ : ∃ y : List Sh, y = T25 ++ [.inr (0, 4001, [])] := ⟨_, rfl⟩
    have hm26 : T26.length + 1 = 27 := by rw [hT26, List.length_append]; have := hm25; simp only [List.length_cons, List.length_nil]; omega
    have eT26 : T26 = RT_BM_init_26 L := by rw [hT26, eT25]; rfl
    rw [← hT26]
    refine a_putF (pc := 250) (i := L) (r := (L + 26)) fp_BM_92 (Or.inr ⟨_, rfl⟩) rfl rfl (pb_g hL) rfl d_BM_init_250 ?_
    rw [pb_s hL]
    show Ax g m_BM_init 47 91536 _ (P ++ (.inl (12, [(0, 0), (2, (L + 1)), (2, (L + 2)), (2, (L + 3)), (2, (L + 4)), (2, (L + 5)), (2, (L + 6)), (2, (L + 7)), (2, (L + 8)), (2, (L + 9)), (2, (L + 10)), (0, 0), (0, 0), (0, 0), (0, 0), (0, 0), (0, 0), (0, 0), (0, 0), (0, 0), (0, 0), (0, 0), (2, (L + 11)), (2, (L + 12)), (2, (L + 13)), (2, (L + 14)), (2, (L + 15)), (2, (L + 16)), (2, (L + 17)), (2, (L + 18)), (2, (L + 19)), (2, (L + 20)), (0, 0), (2, (L + 21)), (2, (L + 22)), (0, 0), (0, 0), (2, (L + 23)), (0, 0), (0, 0), (2, (L + 24)), (2, (L + 25)), (2, (L + 26)), (3, 0), (0, 0), (0, 0), (0, 0), (3, 0), (3, 0), (3, 0), (3, 0), (3, 0), (0, 0), (0, 0), (0, 0), (0, 0), (3, 0), (3, 0), (3, 0), (3, 0), (0, 0), (3, 0), (3, 0), (3, 0), (3, 0), (0, 0), (0, 0), (3, 0), (3, 0), (3, 0), (3, 0), (3, 0), (3, 0), (3, 0), (0, 0), (0, 0)])) :: T26) s9 26 67936 253 [(0, .ref (gB g + L))] []
    refine a_aload_n (pc := 253) 0 rfl rfl d_BM_init_253 ?_
    refine a_sipush (pc := 254) (4001 : Int32) (by decide) d_BM_init_254 ?_
    refine a_newi (pc := 257) (atype := .int) (kd := 0) (N := 4001) rfl (Or.inl ⟨rfl, rfl⟩) tw54 (by rw [(pb_n hL hm26)]; exact hz9 _ (by omega)) (by decide) (by decide) (by decide) (Nat.le_of_ble_eq_true rfl) (Nat.le_of_ble_eq_true rfl) d_BM_init_257 ?_
    rw [(pb_n hL hm26), pb_push]
    show Ax g m_BM_init 47 91536 _ (P ++ (.inl (12, [(0, 0), (2, (L + 1)), (2, (L + 2)), (2, (L + 3)), (2, (L + 4)), (2, (L + 5)), (2, (L + 6)), (2, (L + 7)), (2, (L + 8)), (2, (L + 9)), (2, (L + 10)), (0, 0), (0, 0), (0, 0), (0, 0), (0, 0), (0, 0), (0, 0), (0, 0), (0, 0), (0, 0), (0, 0), (2, (L + 11)), (2, (L + 12)), (2, (L + 13)), (2, (L + 14)), (2, (L + 15)), (2, (L + 16)), (2, (L + 17)), (2, (L + 18)), (2, (L + 19)), (2, (L + 20)), (0, 0), (2, (L + 21)), (2, (L + 22)), (0, 0), (0, 0), (2, (L + 23)), (0, 0), (0, 0), (2, (L + 24)), (2, (L + 25)), (2, (L + 26)), (3, 0), (0, 0), (0, 0), (0, 0), (3, 0), (3, 0), (3, 0), (3, 0), (3, 0), (0, 0), (0, 0), (0, 0), (0, 0), (3, 0), (3, 0), (3, 0), (3, 0), (0, 0), (3, 0), (3, 0), (3, 0), (3, 0), (0, 0), (0, 0), (3, 0), (3, 0), (3, 0), (3, 0), (3, 0), (3, 0), (3, 0), (0, 0), (0, 0)])) :: (T26 ++ [.inr (0, 4001, [])])) s9 27 71937 259 [(0, .ref (gB g + L))] [.ref (gB g + (L + 27)), .ref (gB g + L)]
    obtain ⟨T27, hT27⟩ : ∃ y : List Sh, y = T26 ++ [.inr (0, 4001, [])] := ⟨_, rfl⟩
    have hm27 : T27.length + 1 = 28 := by rw [hT27, List.length_append]; have := hm26; simp only [List.length_cons, List.length_nil]; omega
    have eT27 : T27 = RT_BM_init_27 L := by rw [hT27, eT26]; rfl
    rw [← hT27]
    refine a_putF (pc := 259) (i := L) (r := (L + 27)) fp_BM_95 (Or.inr ⟨_, rfl⟩) rfl rfl (pb_g hL) rfl d_BM_init_259 ?_
    rw [pb_s hL]
    show Ax g m_BM_init 47 91536 _ (P ++ (.inl (12, [(0, 0), (2, (L + 1)), (2, (L + 2)), (2, (L + 3)), (2, (L + 4)), (2, (L + 5)), (2, (L + 6)), (2, (L + 7)), (2, (L + 8)), (2, (L + 9)), (2, (L + 10)), (0, 0), (0, 0), (0, 0), (0, 0), (0, 0), (0, 0), (0, 0), (0, 0), (0, 0), (0, 0), (0, 0), (2, (L + 11)), (2, (L + 12)), (2, (L + 13)), (2, (L + 14)), (2, (L + 15)), (2, (L + 16)), (2, (L + 17)), (2, (L + 18)), (2, (L + 19)), (2, (L + 20)), (0, 0), (2, (L + 21)), (2, (L + 22)), (0, 0), (0, 0), (2, (L + 23)), (0, 0), (0, 0), (2, (L + 24)), (2, (L + 25)), (2, (L + 26)), (2, (L + 27)), (0, 0), (0, 0), (0, 0), (3, 0), (3, 0), (3, 0), (3, 0), (3, 0), (0, 0), (0, 0), (0, 0), (0, 0), (3, 0), (3, 0), (3, 0), (3, 0), (0, 0), (3, 0), (3, 0), (3, 0), (3, 0), (0, 0), (0, 0), (3, 0), (3, 0), (3, 0), (3, 0), (3, 0), (3, 0), (3, 0), (0, 0), (0, 0)])) :: T27) s9 27 71937 262 [(0, .ref (gB g + L))] []
    refine a_aload_n (pc := 262) 0 rfl rfl d_BM_init_262 ?_
    refine a_iconst (pc := 263) (3 : Int32) (by decide) d_BM_init_263 ?_
    refine a_newi (pc := 264) (atype := .int) (kd := 0) (N := 3) rfl (Or.inl ⟨rfl, rfl⟩) tw54 (by rw [(pb_n hL hm27)]; exact hz9 _ (by omega)) (by decide) (by decide) (by decide) (Nat.le_of_ble_eq_true rfl) (Nat.le_of_ble_eq_true rfl) d_BM_init_264 ?_
    rw [(pb_n hL hm27), pb_push]
    show Ax g m_BM_init 47 91536 _ (P ++ (.inl (12, [(0, 0), (2, (L + 1)), (2, (L + 2)), (2, (L + 3)), (2, (L + 4)), (2, (L + 5)), (2, (L + 6)), (2, (L + 7)), (2, (L + 8)), (2, (L + 9)), (2, (L + 10)), (0, 0), (0, 0), (0, 0), (0, 0), (0, 0), (0, 0), (0, 0), (0, 0), (0, 0), (0, 0), (0, 0), (2, (L + 11)), (2, (L + 12)), (2, (L + 13)), (2, (L + 14)), (2, (L + 15)), (2, (L + 16)), (2, (L + 17)), (2, (L + 18)), (2, (L + 19)), (2, (L + 20)), (0, 0), (2, (L + 21)), (2, (L + 22)), (0, 0), (0, 0), (2, (L + 23)), (0, 0), (0, 0), (2, (L + 24)), (2, (L + 25)), (2, (L + 26)), (2, (L + 27)), (0, 0), (0, 0), (0, 0), (3, 0), (3, 0), (3, 0), (3, 0), (3, 0), (0, 0), (0, 0), (0, 0), (0, 0), (3, 0), (3, 0), (3, 0), (3, 0), (0, 0), (3, 0), (3, 0), (3, 0), (3, 0), (0, 0), (0, 0), (3, 0), (3, 0), (3, 0), (3, 0), (3, 0), (3, 0), (3, 0), (0, 0), (0, 0)])) :: (T27 ++ [.inr (0, 3, [])])) s9 28 71940 266 [(0, .ref (gB g + L))] [.ref (gB g + (L + 28)), .ref (gB g + L)]
    obtain ⟨T28, hT28⟩ : ∃ y : List Sh, y = T27 ++ [.inr (0, 3, [])] := ⟨_, rfl⟩
    have hm28 : T28.length + 1 = 29 := by rw [hT28, List.length_append]; have := hm27; simp only [List.length_cons, List.length_nil]; omega
    have eT28 : T28 = RT_BM_init_28 L := by rw [hT28, eT27]; rfl
    rw [← hT28]
    refine a_putF (pc := 266) (i := L) (r := (L + 28)) fp_BM_98 (Or.inr ⟨_, rfl⟩) rfl rfl (pb_g hL) rfl d_BM_init_266 ?_
    rw [pb_s hL]
    show Ax g m_BM_init 47 91536 _ (P ++ (.inl (12, [(0, 0), (2, (L + 1)), (2, (L + 2)), (2, (L + 3)), (2, (L + 4)), (2, (L + 5)), (2, (L + 6)), (2, (L + 7)), (2, (L + 8)), (2, (L + 9)), (2, (L + 10)), (0, 0), (0, 0), (0, 0), (0, 0), (0, 0), (0, 0), (0, 0), (0, 0), (0, 0), (0, 0), (0, 0), (2, (L + 11)), (2, (L + 12)), (2, (L + 13)), (2, (L + 14)), (2, (L + 15)), (2, (L + 16)), (2, (L + 17)), (2, (L + 18)), (2, (L + 19)), (2, (L + 20)), (0, 0), (2, (L + 21)), (2, (L + 22)), (0, 0), (0, 0), (2, (L + 23)), (0, 0), (0, 0), (2, (L + 24)), (2, (L + 25)), (2, (L + 26)), (2, (L + 27)), (0, 0), (0, 0), (0, 0), (2, (L + 28)), (3, 0), (3, 0), (3, 0), (3, 0), (0, 0), (0, 0), (0, 0), (0, 0), (3, 0), (3, 0), (3, 0), (3, 0), (0, 0), (3, 0), (3, 0), (3, 0), (3, 0), (0, 0), (0, 0), (3, 0), (3, 0), (3, 0), (3, 0), (3, 0), (3, 0), (3, 0), (0, 0), (0, 0)])) :: T28) s9 28 71940 269 [(0, .ref (gB g + L))] []
    refine a_aload_n (pc := 269) 0 rfl rfl d_BM_init_269 ?_
    refine a_sipush (pc := 270) (5776 : Int32) (by decide) d_BM_init_270 ?_
    refine a_newi (pc := 273) (atype := .int) (kd := 0) (N := 5776) rfl (Or.inl ⟨rfl, rfl⟩) tw54 (by rw [(pb_n hL hm28)]; exact hz9 _ (by omega)) (by decide) (by decide) (by decide) (Nat.le_of_ble_eq_true rfl) (Nat.le_of_ble_eq_true rfl) d_BM_init_273 ?_
    rw [(pb_n hL hm28), pb_push]
    show Ax g m_BM_init 47 91536 _ (P ++ (.inl (12, [(0, 0), (2, (L + 1)), (2, (L + 2)), (2, (L + 3)), (2, (L + 4)), (2, (L + 5)), (2, (L + 6)), (2, (L + 7)), (2, (L + 8)), (2, (L + 9)), (2, (L + 10)), (0, 0), (0, 0), (0, 0), (0, 0), (0, 0), (0, 0), (0, 0), (0, 0), (0, 0), (0, 0), (0, 0), (2, (L + 11)), (2, (L + 12)), (2, (L + 13)), (2, (L + 14)), (2, (L + 15)), (2, (L + 16)), (2, (L + 17)), (2, (L + 18)), (2, (L + 19)), (2, (L + 20)), (0, 0), (2, (L + 21)), (2, (L + 22)), (0, 0), (0, 0), (2, (L + 23)), (0, 0), (0, 0), (2, (L + 24)), (2, (L + 25)), (2, (L + 26)), (2, (L + 27)), (0, 0), (0, 0), (0, 0), (2, (L + 28)), (3, 0), (3, 0), (3, 0), (3, 0), (0, 0), (0, 0), (0, 0), (0, 0), (3, 0), (3, 0), (3, 0), (3, 0), (0, 0), (3, 0), (3, 0), (3, 0), (3, 0), (0, 0), (0, 0), (3, 0), (3, 0), (3, 0), (3, 0), (3, 0), (3, 0), (3, 0), (0, 0), (0, 0)])) :: (T28 ++ [.inr (0, 5776, [])])) s9 29 77716 275 [(0, .ref (gB g + L))] [.ref (gB g + (L + 29)), .ref (gB g + L)]
    obtain ⟨T29, hT29⟩ : ∃ y : List Sh, y = T28 ++ [.inr (0, 5776, [])] := ⟨_, rfl⟩
    have hm29 : T29.length + 1 = 30 := by rw [hT29, List.length_append]; have := hm28; simp only [List.length_cons, List.length_nil]; omega
    have eT29 : T29 = RT_BM_init_29 L := by rw [hT29, eT28]; rfl
    rw [← hT29]
    refine a_putF (pc := 275) (i := L) (r := (L + 29)) fp_BM_101 (Or.inr ⟨_, rfl⟩) rfl rfl (pb_g hL) rfl d_BM_init_275 ?_
    rw [pb_s hL]
    show Ax g m_BM_init 47 91536 _ (P ++ (.inl (12, [(0, 0), (2, (L + 1)), (2, (L + 2)), (2, (L + 3)), (2, (L + 4)), (2, (L + 5)), (2, (L + 6)), (2, (L + 7)), (2, (L + 8)), (2, (L + 9)), (2, (L + 10)), (0, 0), (0, 0), (0, 0), (0, 0), (0, 0), (0, 0), (0, 0), (0, 0), (0, 0), (0, 0), (0, 0), (2, (L + 11)), (2, (L + 12)), (2, (L + 13)), (2, (L + 14)), (2, (L + 15)), (2, (L + 16)), (2, (L + 17)), (2, (L + 18)), (2, (L + 19)), (2, (L + 20)), (0, 0), (2, (L + 21)), (2, (L + 22)), (0, 0), (0, 0), (2, (L + 23)), (0, 0), (0, 0), (2, (L + 24)), (2, (L + 25)), (2, (L + 26)), (2, (L + 27)), (0, 0), (0, 0), (0, 0), (2, (L + 28)), (2, (L + 29)), (3, 0), (3, 0), (3, 0), (0, 0), (0, 0), (0, 0), (0, 0), (3, 0), (3, 0), (3, 0), (3, 0), (0, 0), (3, 0), (3, 0), (3, 0), (3, 0), (0, 0), (0, 0), (3, 0), (3, 0), (3, 0), (3, 0), (3, 0), (3, 0), (3, 0), (0, 0), (0, 0)])) :: T29) s9 29 77716 278 [(0, .ref (gB g + L))] []
    refine a_aload_n (pc := 278) 0 rfl rfl d_BM_init_278 ?_
    refine a_sipush (pc := 279) (1444 : Int32) (by decide) d_BM_init_279 ?_
    refine a_newi (pc := 282) (atype := .int) (kd := 0) (N := 1444) rfl (Or.inl ⟨rfl, rfl⟩) tw54 (by rw [(pb_n hL hm29)]; exact hz9 _ (by omega)) (by decide) (by decide) (by decide) (Nat.le_of_ble_eq_true rfl) (Nat.le_of_ble_eq_true rfl) d_BM_init_282 ?_
    rw [(pb_n hL hm29), pb_push]
    show Ax g m_BM_init 47 91536 _ (P ++ (.inl (12, [(0, 0), (2, (L + 1)), (2, (L + 2)), (2, (L + 3)), (2, (L + 4)), (2, (L + 5)), (2, (L + 6)), (2, (L + 7)), (2, (L + 8)), (2, (L + 9)), (2, (L + 10)), (0, 0), (0, 0), (0, 0), (0, 0), (0, 0), (0, 0), (0, 0), (0, 0), (0, 0), (0, 0), (0, 0), (2, (L + 11)), (2, (L + 12)), (2, (L + 13)), (2, (L + 14)), (2, (L + 15)), (2, (L + 16)), (2, (L + 17)), (2, (L + 18)), (2, (L + 19)), (2, (L + 20)), (0, 0), (2, (L + 21)), (2, (L + 22)), (0, 0), (0, 0), (2, (L + 23)), (0, 0), (0, 0), (2, (L + 24)), (2, (L + 25)), (2, (L + 26)), (2, (L + 27)), (0, 0), (0, 0), (0, 0), (2, (L + 28)), (2, (L + 29)), (3, 0), (3, 0), (3, 0), (0, 0), (0, 0), (0, 0), (0, 0), (3, 0), (3, 0), (3, 0), (3, 0), (0, 0), (3, 0), (3, 0), (3, 0), (3, 0), (0, 0), (0, 0), (3, 0), (3, 0), (3, 0), (3, 0), (3, 0), (3, 0), (3, 0), (0, 0), (0, 0)])) :: (T29 ++ [.inr (0, 1444, [])])) s9 30 79160 284 [(0, .ref (gB g + L))] [.ref (gB g + (L + 30)), .ref (gB g + L)]
    obtain ⟨T30, hT30⟩ : ∃ y : List Sh, y = T29 ++ [.inr (0, 1444, [])] := ⟨_, rfl⟩
    have hm30 : T30.length + 1 = 31 := by rw [hT30, List.length_append]; have := hm29; simp only [List.length_cons, List.length_nil]; omega
    have eT30 : T30 = RT_BM_init_30 L := by rw [hT30, eT29]; rfl
    rw [← hT30]
    refine a_putF (pc := 284) (i := L) (r := (L + 30)) fp_BM_104 (Or.inr ⟨_, rfl⟩) rfl rfl (pb_g hL) rfl d_BM_init_284 ?_
    rw [pb_s hL]
    show Ax g m_BM_init 47 91536 _ (P ++ (.inl (12, [(0, 0), (2, (L + 1)), (2, (L + 2)), (2, (L + 3)), (2, (L + 4)), (2, (L + 5)), (2, (L + 6)), (2, (L + 7)), (2, (L + 8)), (2, (L + 9)), (2, (L + 10)), (0, 0), (0, 0), (0, 0), (0, 0), (0, 0), (0, 0), (0, 0), (0, 0), (0, 0), (0, 0), (0, 0), (2, (L + 11)), (2, (L + 12)), (2, (L + 13)), (2, (L + 14)), (2, (L + 15)), (2, (L + 16)), (2, (L + 17)), (2, (L + 18)), (2, (L + 19)), (2, (L + 20)), (0, 0), (2, (L + 21)), (2, (L + 22)), (0, 0), (0, 0), (2, (L + 23)), (0, 0), (0, 0), (2, (L + 24)), (2, (L + 25)), (2, (L + 26)), (2, (L + 27)), (0, 0), (0, 0), (0, 0), (2, (L + 28)), (2, (L + 29)), (2, (L + 30)), (3, 0), (3, 0), (0, 0), (0, 0), (0, 0), (0, 0), (3, 0), (3, 0), (3, 0), (3, 0), (0, 0), (3, 0), (3, 0), (3, 0), (3, 0), (0, 0), (0, 0), (3, 0), (3, 0), (3, 0), (3, 0), (3, 0), (3, 0), (3, 0), (0, 0), (0, 0)])) :: T30) s9 30 79160 287 [(0, .ref (gB g + L))] []
    refine a_aload_n (pc := 287) 0 rfl rfl d_BM_init_287 ?_
    refine a_sipush (pc := 288) (10108 : Int32) (by decide) d_BM_init_288 ?_
    refine a_newi (pc := 291) (atype := .int) (kd := 0) (N := 10108) rfl (Or.inl ⟨rfl, rfl⟩) tw54 (by rw [(pb_n hL hm30)]; exact hz9 _ (by omega)) (by decide) (by decide) (by decide) (Nat.le_of_ble_eq_true rfl) (Nat.le_of_ble_eq_true rfl) d_BM_init_291 ?_
    rw [(pb_n hL hm30), pb_push]
    show Ax g m_BM_init 47 91536 _ (P ++ (.inl (12, [(0, 0), (2, (L + 1)), (2, (L + 2)), (2, (L + 3)), (2, (L + 4)), (2, (L + 5)), (2, (L + 6)), (2, (L + 7)), (2, (L + 8)), (2, (L + 9)), (2, (L + 10)), (0, 0), (0, 0), (0, 0), (0, 0), (0, 0), (0, 0), (0, 0), (0, 0), (0, 0), (0, 0), (0, 0), (2, (L + 11)), (2, (L + 12)), (2, (L + 13)), (2, (L + 14)), (2, (L + 15)), (2, (L + 16)), (2, (L + 17)), (2, (L + 18)), (2, (L + 19)), (2, (L + 20)), (0, 0), (2, (L + 21)), (2, (L + 22)), (0, 0), (0, 0), (2, (L + 23)), (0, 0), (0, 0), (2, (L + 24)), (2, (L + 25)), (2, (L + 26)), (2, (L + 27)), (0, 0), (0, 0), (0, 0), (2, (L + 28)), (2, (L + 29)), (2, (L + 30)), (3, 0), (3, 0), (0, 0), (0, 0), (0, 0), (0, 0), (3, 0), (3, 0), (3, 0), (3, 0), (0, 0), (3, 0), (3, 0), (3, 0), (3, 0), (0, 0), (0, 0), (3, 0), (3, 0), (3, 0), (3, 0), (3, 0), (3, 0), (3, 0), (0, 0), (0, 0)])) :: (T30 ++ [.inr (0, 10108, [])])) s9 31 89268 293 [(0, .ref (gB g + L))] [.ref (gB g + (L + 31)), .ref (gB g + L)]
    obtain ⟨T31, hT31⟩ : ∃ y : List Sh, y = T30 ++ [.inr (0, 10108, [])] := ⟨_, rfl⟩
    have hm31 : T31.length + 1 = 32 := by rw [hT31, List.length_append]; have := hm30; simp only [List.length_cons, List.length_nil]; omega
    have eT31 : T31 = RT_BM_init_31 L := by rw [hT31, eT30]; rfl
    rw [← hT31]
    refine a_putF (pc := 293) (i := L) (r := (L + 31)) fp_BM_107 (Or.inr ⟨_, rfl⟩) rfl rfl (pb_g hL) rfl d_BM_init_293 ?_
    rw [pb_s hL]
    show Ax g m_BM_init 47 91536 _ (P ++ (.inl (12, [(0, 0), (2, (L + 1)), (2, (L + 2)), (2, (L + 3)), (2, (L + 4)), (2, (L + 5)), (2, (L + 6)), (2, (L + 7)), (2, (L + 8)), (2, (L + 9)), (2, (L + 10)), (0, 0), (0, 0), (0, 0), (0, 0), (0, 0), (0, 0), (0, 0), (0, 0), (0, 0), (0, 0), (0, 0), (2, (L + 11)), (2, (L + 12)), (2, (L + 13)), (2, (L + 14)), (2, (L + 15)), (2, (L + 16)), (2, (L + 17)), (2, (L + 18)), (2, (L + 19)), (2, (L + 20)), (0, 0), (2, (L + 21)), (2, (L + 22)), (0, 0), (0, 0), (2, (L + 23)), (0, 0), (0, 0), (2, (L + 24)), (2, (L + 25)), (2, (L + 26)), (2, (L + 27)), (0, 0), (0, 0), (0, 0), (2, (L + 28)), (2, (L + 29)), (2, (L + 30)), (2, (L + 31)), (3, 0), (0, 0), (0, 0), (0, 0), (0, 0), (3, 0), (3, 0), (3, 0), (3, 0), (0, 0), (3, 0), (3, 0), (3, 0), (3, 0), (0, 0), (0, 0), (3, 0), (3, 0), (3, 0), (3, 0), (3, 0), (3, 0), (3, 0), (0, 0), (0, 0)])) :: T31) s9 31 89268 296 [(0, .ref (gB g + L))] []
    refine a_aload_n (pc := 296) 0 rfl rfl d_BM_init_296 ?_
    refine a_bipush (pc := 297) (6 : Int32) (by decide) d_BM_init_297 ?_
    refine a_newi (pc := 299) (atype := .int) (kd := 0) (N := 6) rfl (Or.inl ⟨rfl, rfl⟩) tw54 (by rw [(pb_n hL hm31)]; exact hz9 _ (by omega)) (by decide) (by decide) (by decide) (Nat.le_of_ble_eq_true rfl) (Nat.le_of_ble_eq_true rfl) d_BM_init_299 ?_
    rw [(pb_n hL hm31), pb_push]
    show Ax g m_BM_init 47 91536 _ (P ++ (.inl (12, [(0, 0), (2, (L + 1)), (2, (L + 2)), (2, (L + 3)), (2, (L + 4)), (2, (L + 5)), (2, (L + 6)), (2, (L + 7)), (2, (L + 8)), (2, (L + 9)), (2, (L + 10)), (0, 0), (0, 0), (0, 0), (0, 0), (0, 0), (0, 0), (0, 0), (0, 0), (0, 0), (0, 0), (0, 0), (2, (L + 11)), (2, (L + 12)), (2, (L + 13)), (2, (L + 14)), (2, (L + 15)), (2, (L + 16)), (2, (L + 17)), (2, (L + 18)), (2, (L + 19)), (2, (L + 20)), (0, 0), (2, (L + 21)), (2, (L + 22)), (0, 0), (0, 0), (2, (L + 23)), (0, 0), (0, 0), (2, (L + 24)), (2, (L + 25)), (2, (L + 26)), (2, (L + 27)), (0, 0), (0, 0), (0, 0), (2, (L + 28)), (2, (L + 29)), (2, (L + 30)), (2, (L + 31)), (3, 0), (0, 0), (0, 0), (0, 0), (0, 0), (3, 0), (3, 0), (3, 0), (3, 0), (0, 0), (3, 0), (3, 0), (3, 0), (3, 0), (0, 0), (0, 0), (3, 0), (3, 0), (3, 0), (3, 0), (3, 0), (3, 0), (3, 0), (0, 0), (0, 0)])) :: (T31 ++ [.inr (0, 6, [])])) s9 32 89274 301 [(0, .ref (gB g + L))] [.ref (gB g + (L + 32)), .ref (gB g + L)]
    obtain ⟨T32, hT32⟩ : ∃ y : List Sh, y = T31 ++ [.inr (0, 6, [])] := ⟨_, rfl⟩
    have hm32 : T32.length + 1 = 33 := by rw [hT32, List.length_append]; have := hm31; simp only [List.length_cons, List.length_nil]; omega
    have eT32 : T32 = RT_BM_init_32 L := by rw [hT32, eT31]; rfl
    rw [← hT32]
    refine a_putF (pc := 301) (i := L) (r := (L + 32)) fp_BM_110 (Or.inr ⟨_, rfl⟩) rfl rfl (pb_g hL) rfl d_BM_init_301 ?_
    rw [pb_s hL]
    show Ax g m_BM_init 47 91536 _ (P ++ (.inl (12, [(0, 0), (2, (L + 1)), (2, (L + 2)), (2, (L + 3)), (2, (L + 4)), (2, (L + 5)), (2, (L + 6)), (2, (L + 7)), (2, (L + 8)), (2, (L + 9)), (2, (L + 10)), (0, 0), (0, 0), (0, 0), (0, 0), (0, 0), (0, 0), (0, 0), (0, 0), (0, 0), (0, 0), (0, 0), (2, (L + 11)), (2, (L + 12)), (2, (L + 13)), (2, (L + 14)), (2, (L + 15)), (2, (L + 16)), (2, (L + 17)), (2, (L + 18)), (2, (L + 19)), (2, (L + 20)), (0, 0), (2, (L + 21)), (2, (L + 22)), (0, 0), (0, 0), (2, (L + 23)), (0, 0), (0, 0), (2, (L + 24)), (2, (L + 25)), (2, (L + 26)), (2, (L + 27)), (0, 0), (0, 0), (0, 0), (2, (L + 28)), (2, (L + 29)), (2, (L + 30)), (2, (L + 31)), (2, (L + 32)), (0, 0), (0, 0), (0, 0), (0, 0), (3, 0), (3, 0), (3, 0), (3, 0), (0, 0), (3, 0), (3, 0), (3, 0), (3, 0), (0, 0), (0, 0), (3, 0), (3, 0), (3, 0), (3, 0), (3, 0), (3, 0), (3, 0), (0, 0), (0, 0)])) :: T32) s9 32 89274 304 [(0, .ref (gB g + L))] []
    refine a_aload_n (pc := 304) 0 rfl rfl d_BM_init_304 ?_
    refine a_sipush (pc := 305) (1444 : Int32) (by decide) d_BM_init_305 ?_
    refine a_newi (pc := 308) (atype := .int) (kd := 0) (N := 1444) rfl (Or.inl ⟨rfl, rfl⟩) tw54 (by rw [(pb_n hL hm32)]; exact hz9 _ (by omega)) (by decide) (by decide) (by decide) (Nat.le_of_ble_eq_true rfl) (Nat.le_of_ble_eq_true rfl) d_BM_init_308 ?_
    rw [(pb_n hL hm32), pb_push]
    show Ax g m_BM_init 47 91536 _ (P ++ (.inl (12, [(0, 0), (2, (L + 1)), (2, (L + 2)), (2, (L + 3)), (2, (L + 4)), (2, (L + 5)), (2, (L + 6)), (2, (L + 7)), (2, (L + 8)), (2, (L + 9)), (2, (L + 10)), (0, 0), (0, 0), (0, 0), (0, 0), (0, 0), (0, 0), (0, 0), (0, 0), (0, 0), (0, 0), (0, 0), (2, (L + 11)), (2, (L + 12)), (2, (L + 13)), (2, (L + 14)), (2, (L + 15)), (2, (L + 16)), (2, (L + 17)), (2, (L + 18)), (2, (L + 19)), (2, (L + 20)), (0, 0), (2, (L + 21)), (2, (L + 22)), (0, 0), (0, 0), (2, (L + 23)), (0, 0), (0, 0), (2, (L + 24)), (2, (L + 25)), (2, (L + 26)), (2, (L + 27)), (0, 0), (0, 0), (0, 0), (2, (L + 28)), (2, (L + 29)), (2, (L + 30)), (2, (L + 31)), (2, (L + 32)), (0, 0), (0, 0), (0, 0), (0, 0), (3, 0), (3, 0), (3, 0), (3, 0), (0, 0), (3, 0), (3, 0), (3, 0), (3, 0), (0, 0), (0, 0), (3, 0), (3, 0), (3, 0), (3, 0), (3, 0), (3, 0), (3, 0), (0, 0), (0, 0)])) :: (T32 ++ [.inr (0, 1444, [])])) s9 33 90718 310 [(0, .ref (gB g + L))] [.ref (gB g + (L + 33)), .ref (gB g + L)]
    obtain ⟨T33, hT33⟩ : ∃ y : List Sh, y = T32 ++ [.inr (0, 1444, [])] := ⟨_, rfl⟩
    have hm33 : T33.length + 1 = 34 := by rw [hT33, List.length_append]; have := hm32; simp only [List.length_cons, List.length_nil]; omega
    have eT33 : T33 = RT_BM_init_33 L := by rw [hT33, eT32]; rfl
    rw [← hT33]
    refine a_putF (pc := 310) (i := L) (r := (L + 33)) fp_BM_113 (Or.inr ⟨_, rfl⟩) rfl rfl (pb_g hL) rfl d_BM_init_310 ?_
    rw [pb_s hL]
    show Ax g m_BM_init 47 91536 _ (P ++ (.inl (12, [(0, 0), (2, (L + 1)), (2, (L + 2)), (2, (L + 3)), (2, (L + 4)), (2, (L + 5)), (2, (L + 6)), (2, (L + 7)), (2, (L + 8)), (2, (L + 9)), (2, (L + 10)), (0, 0), (0, 0), (0, 0), (0, 0), (0, 0), (0, 0), (0, 0), (0, 0), (0, 0), (0, 0), (0, 0), (2, (L + 11)), (2, (L + 12)), (2, (L + 13)), (2, (L + 14)), (2, (L + 15)), (2, (L + 16)), (2, (L + 17)), (2, (L + 18)), (2, (L + 19)), (2, (L + 20)), (0, 0), (2, (L + 21)), (2, (L + 22)), (0, 0), (0, 0), (2, (L + 23)), (0, 0), (0, 0), (2, (L + 24)), (2, (L + 25)), (2, (L + 26)), (2, (L + 27)), (0, 0), (0, 0), (0, 0), (2, (L + 28)), (2, (L + 29)), (2, (L + 30)), (2, (L + 31)), (2, (L + 32)), (0, 0), (0, 0), (0, 0), (0, 0), (2, (L + 33)), (3, 0), (3, 0), (3, 0), (0, 0), (3, 0), (3, 0), (3, 0), (3, 0), (0, 0), (0, 0), (3, 0), (3, 0), (3, 0), (3, 0), (3, 0), (3, 0), (3, 0), (0, 0), (0, 0)])) :: T33) s9 33 90718 313 [(0, .ref (gB g + L))] []
    refine a_aload_n (pc := 313) 0 rfl rfl d_BM_init_313 ?_
    refine a_iconst (pc := 314) (3 : Int32) (by decide) d_BM_init_314 ?_
    refine a_newi (pc := 315) (atype := .int) (kd := 0) (N := 3) rfl (Or.inl ⟨rfl, rfl⟩) tw54 (by rw [(pb_n hL hm33)]; exact hz9 _ (by omega)) (by decide) (by decide) (by decide) (Nat.le_of_ble_eq_true rfl) (Nat.le_of_ble_eq_true rfl) d_BM_init_315 ?_
    rw [(pb_n hL hm33), pb_push]
    show Ax g m_BM_init 47 91536 _ (P ++ (.inl (12, [(0, 0), (2, (L + 1)), (2, (L + 2)), (2, (L + 3)), (2, (L + 4)), (2, (L + 5)), (2, (L + 6)), (2, (L + 7)), (2, (L + 8)), (2, (L + 9)), (2, (L + 10)), (0, 0), (0, 0), (0, 0), (0, 0), (0, 0), (0, 0), (0, 0), (0, 0), (0, 0), (0, 0), (0, 0), (2, (L + 11)), (2, (L + 12)), (2, (L + 13)), (2, (L + 14)), (2, (L + 15)), (2, (L + 16)), (2, (L + 17)), (2, (L + 18)), (2, (L + 19)), (2, (L + 20)), (0, 0), (2, (L + 21)), (2, (L + 22)), (0, 0), (0, 0), (2, (L + 23)), (0, 0), (0, 0), (2, (L + 24)), (2, (L + 25)), (2, (L + 26)), (2, (L + 27)), (0, 0), (0, 0), (0, 0), (2, (L + 28)), (2, (L + 29)), (2, (L + 30)), (2, (L + 31)), (2, (L + 32)), (0, 0), (0, 0), (0, 0), (0, 0), (2, (L + 33)), (3, 0), (3, 0), (3, 0), (0, 0), (3, 0), (3, 0), (3, 0), (3, 0), (0, 0), (0, 0), (3, 0), (3, 0), (3, 0), (3, 0), (3, 0), (3, 0), (3, 0), (0, 0), (0, 0)])) :: (T33 ++ [.inr (0, 3, [])])) s9 34 90721 317 [(0, .ref (gB g + L))] [.ref (gB g + (L + 34)), .ref (gB g + L)]
    obtain ⟨T34, hT34⟩ : ∃ y : List Sh, y = T33 ++ [.inr (0, 3, [])] := ⟨_, rfl⟩
    have hm34 : T34.length + 1 = 35 := by rw [hT34, List.length_append]; have := hm33; simp only [List.length_cons, List.length_nil]; omega
    have eT34 : T34 = RT_BM_init_34 L := by rw [hT34, eT33]; rfl
    rw [← hT34]
    refine a_putF (pc := 317) (i := L) (r := (L + 34)) fp_BM_116 (Or.inr ⟨_, rfl⟩) rfl rfl (pb_g hL) rfl d_BM_init_317 ?_
    rw [pb_s hL]
    show Ax g m_BM_init 47 91536 _ (P ++ (.inl (12, [(0, 0), (2, (L + 1)), (2, (L + 2)), (2, (L + 3)), (2, (L + 4)), (2, (L + 5)), (2, (L + 6)), (2, (L + 7)), (2, (L + 8)), (2, (L + 9)), (2, (L + 10)), (0, 0), (0, 0), (0, 0), (0, 0), (0, 0), (0, 0), (0, 0), (0, 0), (0, 0), (0, 0), (0, 0), (2, (L + 11)), (2, (L + 12)), (2, (L + 13)), (2, (L + 14)), (2, (L + 15)), (2, (L + 16)), (2, (L + 17)), (2, (L + 18)), (2, (L + 19)), (2, (L + 20)), (0, 0), (2, (L + 21)), (2, (L + 22)), (0, 0), (0, 0), (2, (L + 23)), (0, 0), (0, 0), (2, (L + 24)), (2, (L + 25)), (2, (L + 26)), (2, (L + 27)), (0, 0), (0, 0), (0, 0), (2, (L + 28)), (2, (L + 29)), (2, (L + 30)), (2, (L + 31)), (2, (L + 32)), (0, 0), (0, 0), (0, 0), (0, 0), (2, (L + 33)), (2, (L + 34)), (3, 0), (3, 0), (0, 0), (3, 0), (3, 0), (3, 0), (3, 0), (0, 0), (0, 0), (3, 0), (3, 0), (3, 0), (3, 0), (3, 0), (3, 0), (3, 0), (0, 0), (0, 0)])) :: T34) s9 34 90721 320 [(0, .ref (gB g + L))] []
    refine a_aload_n (pc := 320) 0 rfl rfl d_BM_init_320 ?_
    refine a_bipush (pc := 321) (64 : Int32) (by decide) d_BM_init_321 ?_
    refine a_newi (pc := 323) (atype := .int) (kd := 0) (N := 64) rfl (Or.inl ⟨rfl, rfl⟩) tw54 (by rw [(pb_n hL hm34)]; exact hz9 _ (by omega)) (by decide) (by decide) (by decide) (Nat.le_of_ble_eq_true rfl) (Nat.le_of_ble_eq_true rfl) d_BM_init_323 ?_
    rw [(pb_n hL hm34), pb_push]
    show Ax g m_BM_init 47 91536 _ (P ++ (.inl (12, [(0, 0), (2, (L + 1)), (2, (L + 2)), (2, (L + 3)), (2, (L + 4)), (2, (L + 5)), (2, (L + 6)), (2, (L + 7)), (2, (L + 8)), (2, (L + 9)), (2, (L + 10)), (0, 0), (0, 0), (0, 0), (0, 0), (0, 0), (0, 0), (0, 0), (0, 0), (0, 0), (0, 0), (0, 0), (2, (L + 11)), (2, (L + 12)), (2, (L + 13)), (2, (L + 14)), (2, (L + 15)), (2, (L + 16)), (2, (L + 17)), (2, (L + 18)), (2, (L + 19)), (2, (L + 20)), (0, 0), (2, (L + 21)), (2, (L + 22)), (0, 0), (0, 0), (2, (L + 23)), (0, 0), (0, 0), (2, (L + 24)), (2, (L + 25)), (2, (L + 26)), (2, (L + 27)), (0, 0), (0, 0), (0, 0), (2, (L + 28)), (2, (L + 29)), (2, (L + 30)), (2, (L + 31)), (2, (L + 32)), (0, 0), (0, 0), (0, 0), (0, 0), (2, (L + 33)), (2, (L + 34)), (3, 0), (3, 0), (0, 0), (3, 0), (3, 0), (3, 0), (3, 0), (0, 0), (0, 0), (3, 0), (3, 0), (3, 0), (3, 0), (3, 0), (3, 0), (3, 0), (0, 0), (0, 0)])) :: (T34 ++ [.inr (0, 64, [])])) s9 35 90785 325 [(0, .ref (gB g + L))] [.ref (gB g + (L + 35)), .ref (gB g + L)]
    obtain ⟨T35, hT35⟩ : ∃ y : List Sh, y = T34 ++ [.inr (0, 64, [])] := ⟨_, rfl⟩
    have hm35 : T35.length + 1 = 36 := by rw [hT35, List.length_append]; have := hm34; simp only [List.length_cons, List.length_nil]; omega
    have eT35 : T35 = RT_BM_init_35 L := by rw [hT35, eT34]; rfl
    rw [← hT35]
    refine a_putF (pc := 325) (i := L) (r := (L + 35)) fp_BM_119 (Or.inr ⟨_, rfl⟩) rfl rfl (pb_g hL) rfl d_BM_init_325 ?_
    rw [pb_s hL]
    show Ax g m_BM_init 47 91536 _ (P ++ (.inl (12, [(0, 0), (2, (L + 1)), (2, (L + 2)), (2, (L + 3)), (2, (L + 4)), (2, (L + 5)), (2, (L + 6)), (2, (L + 7)), (2, (L + 8)), (2, (L + 9)), (2, (L + 10)), (0, 0), (0, 0), (0, 0), (0, 0), (0, 0), (0, 0), (0, 0), (0, 0), (0, 0), (0, 0), (0, 0), (2, (L + 11)), (2, (L + 12)), (2, (L + 13)), (2, (L + 14)), (2, (L + 15)), (2, (L + 16)), (2, (L + 17)), (2, (L + 18)), (2, (L + 19)), (2, (L + 20)), (0, 0), (2, (L + 21)), (2, (L + 22)), (0, 0), (0, 0), (2, (L + 23)), (0, 0), (0, 0), (2, (L + 24)), (2, (L + 25)), (2, (L + 26)), (2, (L + 27)), (0, 0), (0, 0), (0, 0), (2, (L + 28)), (2, (L + 29)), (2, (L + 30)), (2, (L + 31)), (2, (L + 32)), (0, 0), (0, 0), (0, 0), (0, 0), (2, (L + 33)), (2, (L + 34)), (2, (L + 35)), (3, 0), (0, 0), (3, 0), (3, 0), (3, 0), (3, 0), (0, 0), (0, 0), (3, 0), (3, 0), (3, 0), (3, 0), (3, 0), (3, 0), (3, 0), (0, 0), (0, 0)])) :: T35) s9 35 90785 328 [(0, .ref (gB g + L))] []
    refine a_aload_n (pc := 328) 0 rfl rfl d_BM_init_328 ?_
    refine a_iconst (pc := 329) (3 : Int32) (by decide) d_BM_init_329 ?_
    refine a_newi (pc := 330) (atype := .long) (kd := 1) (N := 3) rfl (Or.inr (Or.inl ⟨rfl, rfl⟩)) tw186 (by rw [(pb_n hL hm35)]; exact hz9 _ (by omega)) (by decide) (by decide) (by decide) (Nat.le_of_ble_eq_true rfl) (Nat.le_of_ble_eq_true rfl) d_BM_init_330 ?_
    rw [(pb_n hL hm35), pb_push]
    show Ax g m_BM_init 47 91536 _ (P ++ (.inl (12, [(0, 0), (2, (L + 1)), (2, (L + 2)), (2, (L + 3)), (2, (L + 4)), (2, (L + 5)), (2, (L + 6)), (2, (L + 7)), (2, (L + 8)), (2, (L + 9)), (2, (L + 10)), (0, 0), (0, 0), (0, 0), (0, 0), (0, 0), (0, 0), (0, 0), (0, 0), (0, 0), (0, 0), (0, 0), (2, (L + 11)), (2, (L + 12)), (2, (L + 13)), (2, (L + 14)), (2, (L + 15)), (2, (L + 16)), (2, (L + 17)), (2, (L + 18)), (2, (L + 19)), (2, (L + 20)), (0, 0), (2, (L + 21)), (2, (L + 22)), (0, 0), (0, 0), (2, (L + 23)), (0, 0), (0, 0), (2, (L + 24)), (2, (L + 25)), (2, (L + 26)), (2, (L + 27)), (0, 0), (0, 0), (0, 0), (2, (L + 28)), (2, (L + 29)), (2, (L + 30)), (2, (L + 31)), (2, (L + 32)), (0, 0), (0, 0), (0, 0), (0, 0), (2, (L + 33)), (2, (L + 34)), (2, (L + 35)), (3, 0), (0, 0), (3, 0), (3, 0), (3, 0), (3, 0), (0, 0), (0, 0), (3, 0), (3, 0), (3, 0), (3, 0), (3, 0), (3, 0), (3, 0), (0, 0), (0, 0)])) :: (T35 ++ [.inr (1, 3, [])])) s9 36 90788 332 [(0, .ref (gB g + L))] [.ref (gB g + (L + 36)), .ref (gB g + L)]
    obtain ⟨T36, hT36⟩ : ∃ y : List Sh, y = T35 ++ [.inr (1, 3, [])] := ⟨_, rfl⟩
    have hm36 : T36.length + 1 = 37 := by rw [hT36, List.length_append]; have := hm35; simp only [List.length_cons, List.length_nil]; omega
    have eT36 : T36 = RT_BM_init_36 L := by rw [hT36, eT35]; rfl
    rw [← hT36]
    refine a_putF (pc := 332) (i := L) (r := (L + 36)) fp_BM_122 (Or.inr ⟨_, rfl⟩) rfl rfl (pb_g hL) rfl d_BM_init_332 ?_
    rw [pb_s hL]
    show Ax g m_BM_init 47 91536 _ (P ++ (.inl (12, [(0, 0), (2, (L + 1)), (2, (L + 2)), (2, (L + 3)), (2, (L + 4)), (2, (L + 5)), (2, (L + 6)), (2, (L + 7)), (2, (L + 8)), (2, (L + 9)), (2, (L + 10)), (0, 0), (0, 0), (0, 0), (0, 0), (0, 0), (0, 0), (0, 0), (0, 0), (0, 0), (0, 0), (0, 0), (2, (L + 11)), (2, (L + 12)), (2, (L + 13)), (2, (L + 14)), (2, (L + 15)), (2, (L + 16)), (2, (L + 17)), (2, (L + 18)), (2, (L + 19)), (2, (L + 20)), (0, 0), (2, (L + 21)), (2, (L + 22)), (0, 0), (0, 0), (2, (L + 23)), (0, 0), (0, 0), (2, (L + 24)), (2, (L + 25)), (2, (L + 26)), (2, (L + 27)), (0, 0), (0, 0), (0, 0), (2, (L + 28)), (2, (L + 29)), (2, (L + 30)), (2, (L + 31)), (2, (L + 32)), (0, 0), (0, 0), (0, 0), (0, 0), (2, (L + 33)), (2, (L + 34)), (2, (L + 35)), (2, (L + 36)), (0, 0), (3, 0), (3, 0), (3, 0), (3, 0), (0, 0), (0, 0), (3, 0), (3, 0), (3, 0), (3, 0), (3, 0), (3, 0), (3, 0), (0, 0), (0, 0)])) :: T36) s9 36 90788 335 [(0, .ref (gB g + L))] []
    refine a_aload_n (pc := 335) 0 rfl rfl d_BM_init_335 ?_
    refine a_iconst (pc := 336) (3 : Int32) (by decide) d_BM_init_336 ?_
    refine a_newi (pc := 337) (atype := .int) (kd := 0) (N := 3) rfl (Or.inl ⟨rfl, rfl⟩) tw54 (by rw [(pb_n hL hm36)]; exact hz9 _ (by omega)) (by decide) (by decide) (by decide) (Nat.le_of_ble_eq_true rfl) (Nat.le_of_ble_eq_true rfl) d_BM_init_337 ?_
    rw [(pb_n hL hm36), pb_push]
    show Ax g m_BM_init 47 91536 _ (P ++ (.inl (12, [(0, 0), (2, (L + 1)), (2, (L + 2)), (2, (L + 3)), (2, (L + 4)), (2, (L + 5)), (2, (L + 6)), (2, (L + 7)), (2, (L + 8)), (2, (L + 9)), (2, (L + 10)), (0, 0), (0, 0), (0, 0), (0, 0), (0, 0), (0, 0), (0, 0), (0, 0), (0, 0), (0, 0), (0, 0), (2, (L + 11)), (2, (L + 12)), (2, (L + 13)), (2, (L + 14)), (2, (L + 15)), (2, (L + 16)), (2, (L + 17)), (2, (L + 18)), (2, (L + 19)), (2, (L + 20)), (0, 0), (2, (L + 21)), (2, (L + 22)), (0, 0), (0, 0), (2, (L + 23)), (0, 0), (0, 0), (2, (L + 24)), (2, (L + 25)), (2, (L + 26)), (2, (L + 27)), (0, 0), (0, 0), (0, 0), (2, (L + 28)), (2, (L + 29)), (2, (L + 30)), (2, (L + 31)), (2, (L + 32)), (0, 0), (0, 0), (0, 0), (0, 0), (2, (L + 33)), (2, (L + 34)), (2, (L + 35)), (2, (L + 36)), (0, 0), (3, 0), (3, 0), (3, 0), (3, 0), (0, 0), (0, 0), (3, 0), (3, 0), (3, 0), (3, 0), (3, 0), (3, 0), (3, 0), (0, 0), (0, 0)])) :: (T36 ++ [.inr (0, 3, [])])) s9 37 90791 339 [(0, .ref (gB g + L))] [.ref (gB g + (L + 37)), .ref (gB g + L)]
    obtain ⟨T37, hT37⟩ : ∃ y : List Sh, y = T36 ++ [.inr (0, 3, [])] := ⟨_, rfl⟩
    have hm37 : T37.length + 1 = 38 := by rw [hT37, List.length_append]; have := hm36; simp only [List.length_cons, List.length_nil]; omega
    have eT37 : T37 = RT_BM_init_37 L := by rw [hT37, eT36]; rfl
    rw [← hT37]
    refine a_putF (pc := 339) (i := L) (r := (L + 37)) fp_BM_125 (Or.inr ⟨_, rfl⟩) rfl rfl (pb_g hL) rfl d_BM_init_339 ?_
    rw [pb_s hL]
    show Ax g m_BM_init 47 91536 _ (P ++ (.inl (12, [(0, 0), (2, (L + 1)), (2, (L + 2)), (2, (L + 3)), (2, (L + 4)), (2, (L + 5)), (2, (L + 6)), (2, (L + 7)), (2, (L + 8)), (2, (L + 9)), (2, (L + 10)), (0, 0), (0, 0), (0, 0), (0, 0), (0, 0), (0, 0), (0, 0), (0, 0), (0, 0), (0, 0), (0, 0), (2, (L + 11)), (2, (L + 12)), (2, (L + 13)), (2, (L + 14)), (2, (L + 15)), (2, (L + 16)), (2, (L + 17)), (2, (L + 18)), (2, (L + 19)), (2, (L + 20)), (0, 0), (2, (L + 21)), (2, (L + 22)), (0, 0), (0, 0), (2, (L + 23)), (0, 0), (0, 0), (2, (L + 24)), (2, (L + 25)), (2, (L + 26)), (2, (L + 27)), (0, 0), (0, 0), (0, 0), (2, (L + 28)), (2, (L + 29)), (2, (L + 30)), (2, (L + 31)), (2, (L + 32)), (0, 0), (0, 0), (0, 0), (0, 0), (2, (L + 33)), (2, (L + 34)), (2, (L + 35)), (2, (L + 36)), (0, 0), (2, (L + 37)), (3, 0), (3, 0), (3, 0), (0, 0), (0, 0), (3, 0), (3, 0), (3, 0), (3, 0), (3, 0), (3, 0), (3, 0), (0, 0), (0, 0)])) :: T37) s9 37 90791 342 [(0, .ref (gB g + L))] []
    refine a_aload_n (pc := 342) 0 rfl rfl d_BM_init_342 ?_
    refine a_bipush (pc := 343) (27 : Int32) (by decide) d_BM_init_343 ?_
    refine a_newi (pc := 345) (atype := .int) (kd := 0) (N := 27) rfl (Or.inl ⟨rfl, rfl⟩) tw54 (by rw [(pb_n hL hm37)]; exact hz9 _ (by omega)) (by decide) (by decide) (by decide) (Nat.le_of_ble_eq_true rfl) (Nat.le_of_ble_eq_true rfl) d_BM_init_345 ?_
    rw [(pb_n hL hm37), pb_push]
    show Ax g m_BM_init 47 91536 _ (P ++ (.inl (12, [(0, 0), (2, (L + 1)), (2, (L + 2)), (2, (L + 3)), (2, (L + 4)), (2, (L + 5)), (2, (L + 6)), (2, (L + 7)), (2, (L + 8)), (2, (L + 9)), (2, (L + 10)), (0, 0), (0, 0), (0, 0), (0, 0), (0, 0), (0, 0), (0, 0), (0, 0), (0, 0), (0, 0), (0, 0), (2, (L + 11)), (2, (L + 12)), (2, (L + 13)), (2, (L + 14)), (2, (L + 15)), (2, (L + 16)), (2, (L + 17)), (2, (L + 18)), (2, (L + 19)), (2, (L + 20)), (0, 0), (2, (L + 21)), (2, (L + 22)), (0, 0), (0, 0), (2, (L + 23)), (0, 0), (0, 0), (2, (L + 24)), (2, (L + 25)), (2, (L + 26)), (2, (L + 27)), (0, 0), (0, 0), (0, 0), (2, (L + 28)), (2, (L + 29)), (2, (L + 30)), (2, (L + 31)), (2, (L + 32)), (0, 0), (0, 0), (0, 0), (0, 0), (2, (L + 33)), (2, (L + 34)), (2, (L + 35)), (2, (L + 36)), (0, 0), (2, (L + 37)), (3, 0), (3, 0), (3, 0), (0, 0), (0, 0), (3, 0), (3, 0), (3, 0), (3, 0), (3, 0), (3, 0), (3, 0), (0, 0), (0, 0)])) :: (T37 ++ [.inr (0, 27, [])])) s9 38 90818 347 [(0, .ref (gB g + L))] [.ref (gB g + (L + 38)), .ref (gB g + L)]
    obtain ⟨T38, hT38⟩ : ∃ y : List Sh, y = T37 ++ [.inr (0, 27, [])] := ⟨_, rfl⟩
    have hm38 : T38.length + 1 = 39 := by rw [hT38, List.length_append]; have := hm37; simp only [List.length_cons, List.length_nil]; omega
    have eT38 : T38 = RT_BM_init_38 L := by rw [hT38, eT37]; rfl
    rw [← hT38]
    refine a_putF (pc := 347) (i := L) (r := (L + 38)) fp_BM_128 (Or.inr ⟨_, rfl⟩) rfl rfl (pb_g hL) rfl d_BM_init_347 ?_
    rw [pb_s hL]
    show Ax g m_BM_init 47 91536 _ (P ++ (.inl (12, [(0, 0), (2, (L + 1)), (2, (L + 2)), (2, (L + 3)), (2, (L + 4)), (2, (L + 5)), (2, (L + 6)), (2, (L + 7)), (2, (L + 8)), (2, (L + 9)), (2, (L + 10)), (0, 0), (0, 0), (0, 0), (0, 0), (0, 0), (0, 0), (0, 0), (0, 0), (0, 0), (0, 0), (0, 0), (2, (L + 11)), (2, (L + 12)), (2, (L + 13)), (2, (L + 14)), (2, (L + 15)), (2, (L + 16)), (2, (L + 17)), (2, (L + 18)), (2, (L + 19)), (2, (L + 20)), (0, 0), (2, (L + 21)), (2, (L + 22)), (0, 0), (0, 0), (2, (L + 23)), (0, 0), (0, 0), (2, (L + 24)), (2, (L + 25)), (2, (L + 26)), (2, (L + 27)), (0, 0), (0, 0), (0, 0), (2, (L + 28)), (2, (L + 29)), (2, (L + 30)), (2, (L + 31)), (2, (L + 32)), (0, 0), (0, 0), (0, 0), (0, 0), (2, (L + 33)), (2, (L + 34)), (2, (L + 35)), (2, (L + 36)), (0, 0), (2, (L + 37)), (2, (L + 38)), (3, 0), (3, 0), (0, 0), (0, 0), (3, 0), (3, 0), (3, 0), (3, 0), (3, 0), (3, 0), (3, 0), (0, 0), (0, 0)])) :: T38) s9 38 90818 350 [(0, .ref (gB g + L))] []
    refine a_aload_n (pc := 350) 0 rfl rfl d_BM_init_350 ?_
    refine a_bipush (pc := 351) (9 : Int32) (by decide) d_BM_init_351 ?_
    refine a_newi (pc := 353) (atype := .int) (kd := 0) (N := 9) rfl (Or.inl ⟨rfl, rfl⟩) tw54 (by rw [(pb_n hL hm38)]; exact hz9 _ (by omega)) (by decide) (by decide) (by decide) (Nat.le_of_ble_eq_true rfl) (Nat.le_of_ble_eq_true rfl) d_BM_init_353 ?_
    rw [(pb_n hL hm38), pb_push]
    show Ax g m_BM_init 47 91536 _ (P ++ (.inl (12, [(0, 0), (2, (L + 1)), (2, (L + 2)), (2, (L + 3)), (2, (L + 4)), (2, (L + 5)), (2, (L + 6)), (2, (L + 7)), (2, (L + 8)), (2, (L + 9)), (2, (L + 10)), (0, 0), (0, 0), (0, 0), (0, 0), (0, 0), (0, 0), (0, 0), (0, 0), (0, 0), (0, 0), (0, 0), (2, (L + 11)), (2, (L + 12)), (2, (L + 13)), (2, (L + 14)), (2, (L + 15)), (2, (L + 16)), (2, (L + 17)), (2, (L + 18)), (2, (L + 19)), (2, (L + 20)), (0, 0), (2, (L + 21)), (2, (L + 22)), (0, 0), (0, 0), (2, (L + 23)), (0, 0), (0, 0), (2, (L + 24)), (2, (L + 25)), (2, (L + 26)), (2, (L + 27)), (0, 0), (0, 0), (0, 0), (2, (L + 28)), (2, (L + 29)), (2, (L + 30)), (2, (L + 31)), (2, (L + 32)), (0, 0), (0, 0), (0, 0), (0, 0), (2, (L + 33)), (2, (L + 34)), (2, (L + 35)), (2, (L + 36)), (0, 0), (2, (L + 37)), (2, (L + 38)), (3, 0), (3, 0), (0, 0), (0, 0), (3, 0), (3, 0), (3, 0), (3, 0), (3, 0), (3, 0), (3, 0), (0, 0), (0, 0)])) :: (T38 ++ [.inr (0, 9, [])])) s9 39 90827 355 [(0, .ref (gB g + L))] [.ref (gB g + (L + 39)), .ref (gB g + L)]
    obtain ⟨T39, hT39⟩ : ∃ y : List Sh, y = T38 ++ [.inr (0, 9, [])] := ⟨_, rfl⟩
    have hm39 : T39.length + 1 = 40 := by rw [hT39, List.length_append]; have := hm38; simp only [List.length_cons, List.length_nil]; omega
    have eT39 : T39 = RT_BM_init_39 L := by rw [hT39, eT38]; rfl
    rw [← hT39]
    refine a_putF (pc := 355) (i := L) (r := (L + 39)) fp_BM_131 (Or.inr ⟨_, rfl⟩) rfl rfl (pb_g hL) rfl d_BM_init_355 ?_
    rw [pb_s hL]
    show Ax g m_BM_init 47 91536 _ (P ++ (.inl (12, [(0, 0), (2, (L + 1)), (2, (L + 2)), (2, (L + 3)), (2, (L + 4)), (2, (L + 5)), (2, (L + 6)), (2, (L + 7)), (2, (L + 8)), (2, (L + 9)), (2, (L + 10)), (0, 0), (0, 0), (0, 0), (0, 0), (0, 0), (0, 0), (0, 0), (0, 0), (0, 0), (0, 0), (0, 0), (2, (L + 11)), (2, (L + 12)), (2, (L + 13)), (2, (L + 14)), (2, (L + 15)), (2, (L + 16)), (2, (L + 17)), (2, (L + 18)), (2, (L + 19)), (2, (L + 20)), (0, 0), (2, (L + 21)), (2, (L + 22)), (0, 0), (0, 0), (2, (L + 23)), (0, 0), (0, 0), (2, (L + 24)), (2, (L + 25)), (2, (L + 26)), (2, (L + 27)), (0, 0), (0, 0), (0, 0), (2, (L + 28)), (2, (L + 29)), (2, (L + 30)), (2, (L + 31)), (2, (L + 32)), (0, 0), (0, 0), (0, 0), (0, 0), (2, (L + 33)), (2, (L + 34)), (2, (L + 35)), (2, (L + 36)), (0, 0), (2, (L + 37)), (2, (L + 38)), (2, (L + 39)), (3, 0), (0, 0), (0, 0), (3, 0), (3, 0), (3, 0), (3, 0), (3, 0), (3, 0), (3, 0), (0, 0), (0, 0)])) :: T39) s9 39 90827 358 [(0, .ref (gB g + L))] []
    refine a_aload_n (pc := 358) 0 rfl rfl d_BM_init_358 ?_
    refine a_bipush (pc := 359) (9 : Int32) (by decide) d_BM_init_359 ?_
    refine a_newi (pc := 361) (atype := .boolean) (kd := 3) (N := 9) rfl (Or.inr (Or.inr (Or.inr ⟨rfl, rfl⟩))) tw1478 (by rw [(pb_n hL hm39)]; exact hz9 _ (by omega)) (by decide) (by decide) (by decide) (Nat.le_of_ble_eq_true rfl) (Nat.le_of_ble_eq_true rfl) d_BM_init_361 ?_
    rw [(pb_n hL hm39), pb_push]
    show Ax g m_BM_init 47 91536 _ (P ++ (.inl (12, [(0, 0), (2, (L + 1)), (2, (L + 2)), (2, (L + 3)), (2, (L + 4)), (2, (L + 5)), (2, (L + 6)), (2, (L + 7)), (2, (L + 8)), (2, (L + 9)), (2, (L + 10)), (0, 0), (0, 0), (0, 0), (0, 0), (0, 0), (0, 0), (0, 0), (0, 0), (0, 0), (0, 0), (0, 0), (2, (L + 11)), (2, (L + 12)), (2, (L + 13)), (2, (L + 14)), (2, (L + 15)), (2, (L + 16)), (2, (L + 17)), (2, (L + 18)), (2, (L + 19)), (2, (L + 20)), (0, 0), (2, (L + 21)), (2, (L + 22)), (0, 0), (0, 0), (2, (L + 23)), (0, 0), (0, 0), (2, (L + 24)), (2, (L + 25)), (2, (L + 26)), (2, (L + 27)), (0, 0), (0, 0), (0, 0), (2, (L + 28)), (2, (L + 29)), (2, (L + 30)), (2, (L + 31)), (2, (L + 32)), (0, 0), (0, 0), (0, 0), (0, 0), (2, (L + 33)), (2, (L + 34)), (2, (L + 35)), (2, (L + 36)), (0, 0), (2, (L + 37)), (2, (L + 38)), (2, (L + 39)), (3, 0), (0, 0), (0, 0), (3, 0), (3, 0), (3, 0), (3, 0), (3, 0), (3, 0), (3, 0), (0, 0), (0, 0)])) :: (T39 ++ [.inr (3, 9, [])])) s9 40 90836 363 [(0, .ref (gB g + L))] [.ref (gB g + (L + 40)), .ref (gB g + L)]
    obtain ⟨T40, hT40⟩ : ∃ y : List Sh, y = T39 ++ [.inr (3, 9, [])] := ⟨_, rfl⟩
    have hm40 : T40.length + 1 = 41 := by rw [hT40, List.length_append]; have := hm39; simp only [List.length_cons, List.length_nil]; omega
    have eT40 : T40 = RT_BM_init_40 L := by rw [hT40, eT39]; rfl
    rw [← hT40]
    refine a_putF (pc := 363) (i := L) (r := (L + 40)) fp_BM_134 (Or.inr ⟨_, rfl⟩) rfl rfl (pb_g hL) rfl d_BM_init_363 ?_
    rw [pb_s hL]
    show Ax g m_BM_init 47 91536 _ (P ++ (.inl (12, [(0, 0), (2, (L + 1)), (2, (L + 2)), (2, (L + 3)), (2, (L + 4)), (2, (L + 5)), (2, (L + 6)), (2, (L + 7)), (2, (L + 8)), (2, (L + 9)), (2, (L + 10)), (0, 0), (0, 0), (0, 0), (0, 0), (0, 0), (0, 0), (0, 0), (0, 0), (0, 0), (0, 0), (0, 0), (2, (L + 11)), (2, (L + 12)), (2, (L + 13)), (2, (L + 14)), (2, (L + 15)), (2, (L + 16)), (2, (L + 17)), (2, (L + 18)), (2, (L + 19)), (2, (L + 20)), (0, 0), (2, (L + 21)), (2, (L + 22)), (0, 0), (0, 0), (2, (L + 23)), (0, 0), (0, 0), (2, (L + 24)), (2, (L + 25)), (2, (L + 26)), (2, (L + 27)), (0, 0), (0, 0), (0, 0), (2, (L + 28)), (2, (L + 29)), (2, (L + 30)), (2, (L + 31)), (2, (L + 32)), (0, 0), (0, 0), (0, 0), (0, 0), (2, (L + 33)), (2, (L + 34)), (2, (L + 35)), (2, (L + 36)), (0, 0), (2, (L + 37)), (2, (L + 38)), (2, (L + 39)), (2, (L + 40)), (0, 0), (0, 0), (3, 0), (3, 0), (3, 0), (3, 0), (3, 0), (3, 0), (3, 0), (0, 0), (0, 0)])) :: T40) s9 40 90836 366 [(0, .ref (gB g + L))] []
    refine a_aload_n (pc := 366) 0 rfl rfl d_BM_init_366 ?_
    refine a_bipush (pc := 367) (8 : Int32) (by decide) d_BM_init_367 ?_
    refine a_newi (pc := 369) (atype := .int) (kd := 0) (N := 8) rfl (Or.inl ⟨rfl, rfl⟩) tw54 (by rw [(pb_n hL hm40)]; exact hz9 _ (by omega)) (by decide) (by decide) (by decide) (Nat.le_of_ble_eq_true rfl) (Nat.le_of_ble_eq_true rfl) d_BM_init_369 ?_
    rw [(pb_n hL hm40), pb_push]
    show Ax g m_BM_init 47 91536 _ (P ++ (.inl (12, [(0, 0), (2, (L + 1)), (2, (L + 2)), (2, (L + 3)), (2, (L + 4)), (2, (L + 5)), (2, (L + 6)), (2, (L + 7)), (2, (L + 8)), (2, (L + 9)), (2, (L + 10)), (0, 0), (0, 0), (0, 0), (0, 0), (0, 0), (0, 0), (0, 0), (0, 0), (0, 0), (0, 0), (0, 0), (2, (L + 11)), (2, (L + 12)), (2, (L + 13)), (2, (L + 14)), (2, (L + 15)), (2, (L + 16)), (2, (L + 17)), (2, (L + 18)), (2, (L + 19)), (2, (L + 20)), (0, 0), (2, (L + 21)), (2, (L + 22)), (0, 0), (0, 0), (2, (L + 23)), (0, 0), (0, 0), (2, (L + 24)), (2, (L + 25)), (2, (L + 26)), (2, (L + 27)), (0, 0), (0, 0), (0, 0), (2, (L + 28)), (2, (L + 29)), (2, (L + 30)), (2, (L + 31)), (2, (L + 32)), (0, 0), (0, 0), (0, 0), (0, 0), (2, (L + 33)), (2, (L + 34)), (2, (L + 35)), (2, (L + 36)), (0, 0), (2, (L + 37)), (2, (L + 38)), (2, (L + 39)), (2, (L + 40)), (0, 0), (0, 0), (3, 0), (3, 0), (3, 0), (3, 0), (3, 0), (3, 0), (3, 0), (0, 0), (0, 0)])) :: (T40 ++ [.inr (0, 8, [])])) s9 41 90844 371 [(0, .ref (gB g + L))] [.ref (gB g + (L + 41)), .ref (gB g + L)]
    obtain ⟨T41, hT41⟩ : ∃ y : List Sh, y = T40 ++ [.inr (0, 8, [])] := ⟨_, rfl⟩
    have hm41 : T41.length + 1 = 42 := by rw [hT41, List.length_append]; have := hm40; simp only [List.length_cons, List.length_nil]; omega
    have eT41 : T41 = RT_BM_init_41 L := by rw [hT41, eT40]; rfl
    rw [← hT41]
    refine a_putF (pc := 371) (i := L) (r := (L + 41)) fp_BM_138 (Or.inr ⟨_, rfl⟩) rfl rfl (pb_g hL) rfl d_BM_init_371 ?_
    rw [pb_s hL]
    show Ax g m_BM_init 47 91536 _ (P ++ (.inl (12, [(0, 0), (2, (L + 1)), (2, (L + 2)), (2, (L + 3)), (2, (L + 4)), (2, (L + 5)), (2, (L + 6)), (2, (L + 7)), (2, (L + 8)), (2, (L + 9)), (2, (L + 10)), (0, 0), (0, 0), (0, 0), (0, 0), (0, 0), (0, 0), (0, 0), (0, 0), (0, 0), (0, 0), (0, 0), (2, (L + 11)), (2, (L + 12)), (2, (L + 13)), (2, (L + 14)), (2, (L + 15)), (2, (L + 16)), (2, (L + 17)), (2, (L + 18)), (2, (L + 19)), (2, (L + 20)), (0, 0), (2, (L + 21)), (2, (L + 22)), (0, 0), (0, 0), (2, (L + 23)), (0, 0), (0, 0), (2, (L + 24)), (2, (L + 25)), (2, (L + 26)), (2, (L + 27)), (0, 0), (0, 0), (0, 0), (2, (L + 28)), (2, (L + 29)), (2, (L + 30)), (2, (L + 31)), (2, (L + 32)), (0, 0), (0, 0), (0, 0), (0, 0), (2, (L + 33)), (2, (L + 34)), (2, (L + 35)), (2, (L + 36)), (0, 0), (2, (L + 37)), (2, (L + 38)), (2, (L + 39)), (2, (L + 40)), (0, 0), (0, 0), (2, (L + 41)), (3, 0), (3, 0), (3, 0), (3, 0), (3, 0), (3, 0), (0, 0), (0, 0)])) :: T41) s9 41 90844 374 [(0, .ref (gB g + L))] []
    refine a_aload_n (pc := 374) 0 rfl rfl d_BM_init_374 ?_
    refine a_bipush (pc := 375) (8 : Int32) (by decide) d_BM_init_375 ?_
    refine a_newi (pc := 377) (atype := .int) (kd := 0) (N := 8) rfl (Or.inl ⟨rfl, rfl⟩) tw54 (by rw [(pb_n hL hm41)]; exact hz9 _ (by omega)) (by decide) (by decide) (by decide) (Nat.le_of_ble_eq_true rfl) (Nat.le_of_ble_eq_true rfl) d_BM_init_377 ?_
    rw [(pb_n hL hm41), pb_push]
    show Ax g m_BM_init 47 91536 _ (P ++ (.inl (12, [(0, 0), (2, (L + 1)), (2, (L + 2)), (2, (L + 3)), (2, (L + 4)), (2, (L + 5)), (2, (L + 6)), (2, (L + 7)), (2, (L + 8)), (2, (L + 9)), (2, (L + 10)), (0, 0), (0, 0), (0, 0), (0, 0), (0, 0), (0, 0), (0, 0), (0, 0), (0, 0), (0, 0), (0, 0), (2, (L + 11)), (2, (L + 12)), (2, (L + 13)), (2, (L + 14)), (2, (L + 15)), (2, (L + 16)), (2, (L + 17)), (2, (L + 18)), (2, (L + 19)), (2, (L + 20)), (0, 0), (2, (L + 21)), (2, (L + 22)), (0, 0), (0, 0), (2, (L + 23)), (0, 0), (0, 0), (2, (L + 24)), (2, (L + 25)), (2, (L + 26)), (2, (L + 27)), (0, 0), (0, 0), (0, 0), (2, (L + 28)), (2, (L + 29)), (2, (L + 30)), (2, (L + 31)), (2, (L + 32)), (0, 0), (0, 0), (0, 0), (0, 0), (2, (L + 33)), (2, (L + 34)), (2, (L + 35)), (2, (L + 36)), (0, 0), (2, (L + 37)), (2, (L + 38)), (2, (L + 39)), (2, (L + 40)), (0, 0), (0, 0), (2, (L + 41)), (3, 0), (3, 0), (3, 0), (3, 0), (3, 0), (3, 0), (0, 0), (0, 0)])) :: (T41 ++ [.inr (0, 8, [])])) s9 42 90852 379 [(0, .ref (gB g + L))] [.ref (gB g + (L + 42)), .ref (gB g + L)]
    obtain ⟨T42, hT42⟩ : ∃ y : List Sh, y = T41 ++ [.inr (0, 8, [])] := ⟨_, rfl⟩
    have hm42 : T42.length + 1 = 43 := by rw [hT42, List.length_append]; have := hm41; simp only [List.length_cons, List.length_nil]; omega
    have eT42 : T42 = RT_BM_init_42 L := by rw [hT42, eT41]; rfl
    rw [← hT42]
    refine a_putF (pc := 379) (i := L) (r := (L + 42)) fp_BM_141 (Or.inr ⟨_, rfl⟩) rfl rfl (pb_g hL) rfl d_BM_init_379 ?_
    rw [pb_s hL]
    show Ax g m_BM_init 47 91536 _ (P ++ (.inl (12, [(0, 0), (2, (L + 1)), (2, (L + 2)), (2, (L + 3)), (2, (L + 4)), (2, (L + 5)), (2, (L + 6)), (2, (L + 7)), (2, (L + 8)), (2, (L + 9)), (2, (L + 10)), (0, 0), (0, 0), (0, 0), (0, 0), (0, 0), (0, 0), (0, 0), (0, 0), (0, 0), (0, 0), (0, 0), (2, (L + 11)), (2, (L + 12)), (2, (L + 13)), (2, (L + 14)), (2, (L + 15)), (2, (L + 16)), (2, (L + 17)), (2, (L + 18)), (2, (L + 19)), (2, (L + 20)), (0, 0), (2, (L + 21)), (2, (L + 22)), (0, 0), (0, 0), (2, (L + 23)), (0, 0), (0, 0), (2, (L + 24)), (2, (L + 25)), (2, (L + 26)), (2, (L + 27)), (0, 0), (0, 0), (0, 0), (2, (L + 28)), (2, (L + 29)), (2, (L + 30)), (2, (L + 31)), (2, (L + 32)), (0, 0), (0, 0), (0, 0), (0, 0), (2, (L + 33)), (2, (L + 34)), (2, (L + 35)), (2, (L + 36)), (0, 0), (2, (L + 37)), (2, (L + 38)), (2, (L + 39)), (2, (L + 40)), (0, 0), (0, 0), (2, (L + 41)), (2, (L + 42)), (3, 0), (3, 0), (3, 0), (3, 0), (3, 0), (0, 0), (0, 0)])) :: T42) s9 42 90852 382 [(0, .ref (gB g + L))] []
    refine a_aload_n (pc := 382) 0 rfl rfl d_BM_init_382 ?_
    refine a_sipush (pc := 383) (288 : Int32) (by decide) d_BM_init_383 ?_
    refine a_newi (pc := 386) (atype := .int) (kd := 0) (N := 288) rfl (Or.inl ⟨rfl, rfl⟩) tw54 (by rw [(pb_n hL hm42)]; exact hz9 _ (by omega)) (by decide) (by decide) (by decide) (Nat.le_of_ble_eq_true rfl) (Nat.le_of_ble_eq_true rfl) d_BM_init_386 ?_
    rw [(pb_n hL hm42), pb_push]
    show Ax g m_BM_init 47 91536 _ (P ++ (.inl (12, [(0, 0), (2, (L + 1)), (2, (L + 2)), (2, (L + 3)), (2, (L + 4)), (2, (L + 5)), (2, (L + 6)), (2, (L + 7)), (2, (L + 8)), (2, (L + 9)), (2, (L + 10)), (0, 0), (0, 0), (0, 0), (0, 0), (0, 0), (0, 0), (0, 0), (0, 0), (0, 0), (0, 0), (0, 0), (2, (L + 11)), (2, (L + 12)), (2, (L + 13)), (2, (L + 14)), (2, (L + 15)), (2, (L + 16)), (2, (L + 17)), (2, (L + 18)), (2, (L + 19)), (2, (L + 20)), (0, 0), (2, (L + 21)), (2, (L + 22)), (0, 0), (0, 0), (2, (L + 23)), (0, 0), (0, 0), (2, (L + 24)), (2, (L + 25)), (2, (L + 26)), (2, (L + 27)), (0, 0), (0, 0), (0, 0), (2, (L + 28)), (2, (L + 29)), (2, (L + 30)), (2, (L + 31)), (2, (L + 32)), (0, 0), (0, 0), (0, 0), (0, 0), (2, (L + 33)), (2, (L + 34)), (2, (L + 35)), (2, (L + 36)), (0, 0), (2, (L + 37)), (2, (L + 38)), (2, (L + 39)), (2, (L + 40)), (0, 0), (0, 0), (2, (L + 41)), (2, (L + 42)), (3, 0), (3, 0), (3, 0), (3, 0), (3, 0), (0, 0), (0, 0)])) :: (T42 ++ [.inr (0, 288, [])])) s9 43 91140 388 [(0, .ref (gB g + L))] [.ref (gB g + (L + 43)), .ref (gB g + L)]
    obtain ⟨T43, hT43⟩ : ∃ y : List Sh, y = T42 ++ [.inr (0, 288, [])] := ⟨_, rfl⟩
    have hm43 : T43.length + 1 = 44 := by rw [hT43, List.length_append]; have := hm42; simp only [List.length_cons, List.length_nil]; omega
    have eT43 : T43 = RT_BM_init_43 L := by rw [hT43, eT42]; rfl
    rw [← hT43]
    refine a_putF (pc := 388) (i := L) (r := (L + 43)) fp_BM_144 (Or.inr ⟨_, rfl⟩) rfl rfl (pb_g hL) rfl d_BM_init_388 ?_
    rw [pb_s hL]
    show Ax g m_BM_init 47 91536 _ (P ++ (.inl (12, [(0, 0), (2, (L + 1)), (2, (L + 2)), (2, (L + 3)), (2, (L + 4)), (2, (L + 5)), (2, (L + 6)), (2, (L + 7)), (2, (L + 8)), (2, (L + 9)), (2, (L + 10)), (0, 0), (0, 0), (0, 0), (0, 0), (0, 0), (0, 0), (0, 0), (0, 0), (0, 0), (0, 0), (0, 0), (2, (L + 11)), (2, (L + 12)), (2, (L + 13)), (2, (L + 14)), (2, (L + 15)), (2, (L + 16)), (2, (L + 17)), (2, (L + 18)), (2, (L + 19)), (2, (L + 20)), (0, 0), (2, (L + 21)), (2, (L + 22)), (0, 0), (0, 0), (2, (L + 23)), (0, 0), (0, 0), (2, (L + 24)), (2, (L + 25)), (2, (L + 26)), (2, (L + 27)), (0, 0), (0, 0), (0, 0), (2, (L + 28)), (2, (L + 29)), (2, (L + 30)), (2, (L + 31)), (2, (L + 32)), (0, 0), (0, 0), (0, 0), (0, 0), (2, (L + 33)), (2, (L + 34)), (2, (L + 35)), (2, (L + 36)), (0, 0), (2, (L + 37)), (2, (L + 38)), (2, (L + 39)), (2, (L + 40)), (0, 0), (0, 0), (2, (L + 41)), (2, (L + 42)), (2, (L + 43)), (3, 0), (3, 0), (3, 0), (3, 0), (0, 0), (0, 0)])) :: T43) s9 43 91140 391 [(0, .ref (gB g + L))] []
    refine a_aload_n (pc := 391) 0 rfl rfl d_BM_init_391 ?_
    refine a_bipush (pc := 392) (24 : Int32) (by decide) d_BM_init_392 ?_
    refine a_newi (pc := 394) (atype := .int) (kd := 0) (N := 24) rfl (Or.inl ⟨rfl, rfl⟩) tw54 (by rw [(pb_n hL hm43)]; exact hz9 _ (by omega)) (by decide) (by decide) (by decide) (Nat.le_of_ble_eq_true rfl) (Nat.le_of_ble_eq_true rfl) d_BM_init_394 ?_
    rw [(pb_n hL hm43), pb_push]
    show Ax g m_BM_init 47 91536 _ (P ++ (.inl (12, [(0, 0), (2, (L + 1)), (2, (L + 2)), (2, (L + 3)), (2, (L + 4)), (2, (L + 5)), (2, (L + 6)), (2, (L + 7)), (2, (L + 8)), (2, (L + 9)), (2, (L + 10)), (0, 0), (0, 0), (0, 0), (0, 0), (0, 0), (0, 0), (0, 0), (0, 0), (0, 0), (0, 0), (0, 0), (2, (L + 11)), (2, (L + 12)), (2, (L + 13)), (2, (L + 14)), (2, (L + 15)), (2, (L + 16)), (2, (L + 17)), (2, (L + 18)), (2, (L + 19)), (2, (L + 20)), (0, 0), (2, (L + 21)), (2, (L + 22)), (0, 0), (0, 0), (2, (L + 23)), (0, 0), (0, 0), (2, (L + 24)), (2, (L + 25)), (2, (L + 26)), (2, (L + 27)), (0, 0), (0, 0), (0, 0), (2, (L + 28)), (2, (L + 29)), (2, (L + 30)), (2, (L + 31)), (2, (L + 32)), (0, 0), (0, 0), (0, 0), (0, 0), (2, (L + 33)), (2, (L + 34)), (2, (L + 35)), (2, (L + 36)), (0, 0), (2, (L + 37)), (2, (L + 38)), (2, (L + 39)), (2, (L + 40)), (0, 0), (0, 0), (2, (L + 41)), (2, (L + 42)), (2, (L + 43)), (3, 0), (3, 0), (3, 0), (3, 0), (0, 0), (0, 0)])) :: (T43 ++ [.inr (0, 24, [])])) s9 44 91164 396 [(0, .ref (gB g + L))] [.ref (gB g + (L + 44)), .ref (gB g + L)]
    obtain ⟨T44, hT44⟩ : ∃ y : List Sh, y = T43 ++ [.inr (0, 24, [])] := ⟨_, rfl⟩
    have hm44 : T44.length + 1 = 45 := by rw [hT44, List.length_append]; have := hm43; simp only [List.length_cons, List.length_nil]; omega
    have eT44 : T44 = RT_BM_init_44 L := by rw [hT44, eT43]; rfl
    rw [← hT44]
    refine a_putF (pc := 396) (i := L) (r := (L + 44)) fp_BM_147 (Or.inr ⟨_, rfl⟩) rfl rfl (pb_g hL) rfl d_BM_init_396 ?_
    rw [pb_s hL]
    show Ax g m_BM_init 47 91536 _ (P ++ (.inl (12, [(0, 0), (2, (L + 1)), (2, (L + 2)), (2, (L + 3)), (2, (L + 4)), (2, (L + 5)), (2, (L + 6)), (2, (L + 7)), (2, (L + 8)), (2, (L + 9)), (2, (L + 10)), (0, 0), (0, 0), (0, 0), (0, 0), (0, 0), (0, 0), (0, 0), (0, 0), (0, 0), (0, 0), (0, 0), (2, (L + 11)), (2, (L + 12)), (2, (L + 13)), (2, (L + 14)), (2, (L + 15)), (2, (L + 16)), (2, (L + 17)), (2, (L + 18)), (2, (L + 19)), (2, (L + 20)), (0, 0), (2, (L + 21)), (2, (L + 22)), (0, 0), (0, 0), (2, (L + 23)), (0, 0), (0, 0), (2, (L + 24)), (2, (L + 25)), (2, (L + 26)), (2, (L + 27)), (0, 0), (0, 0), (0, 0), (2, (L + 28)), (2, (L + 29)), (2, (L + 30)), (2, (L + 31)), (2, (L + 32)), (0, 0), (0, 0), (0, 0), (0, 0), (2, (L + 33)), (2, (L + 34)), (2, (L + 35)), (2, (L + 36)), (0, 0), (2, (L + 37)), (2, (L + 38)), (2, (L + 39)), (2, (L + 40)), (0, 0), (0, 0), (2, (L + 41)), (2, (L + 42)), (2, (L + 43)), (2, (L + 44)), (3, 0), (3, 0), (3, 0), (0, 0), (0, 0)])) :: T44) s9 44 91164 399 [(0, .ref (gB g + L))] []
    refine a_aload_n (pc := 399) 0 rfl rfl d_BM_init_399 ?_
    refine a_bipush (pc := 400) (8 : Int32) (by decide) d_BM_init_400 ?_
    refine a_newi (pc := 402) (atype := .int) (kd := 0) (N := 8) rfl (Or.inl ⟨rfl, rfl⟩) tw54 (by rw [(pb_n hL hm44)]; exact hz9 _ (by omega)) (by decide) (by decide) (by decide) (Nat.le_of_ble_eq_true rfl) (Nat.le_of_ble_eq_true rfl) d_BM_init_402 ?_
    rw [(pb_n hL hm44), pb_push]
    show Ax g m_BM_init 47 91536 _ (P ++ (.inl (12, [(0, 0), (2, (L + 1)), (2, (L + 2)), (2, (L + 3)), (2, (L + 4)), (2, (L + 5)), (2, (L + 6)), (2, (L + 7)), (2, (L + 8)), (2, (L + 9)), (2, (L + 10)), (0, 0), (0, 0), (0, 0), (0, 0), (0, 0), (0, 0), (0, 0), (0, 0), (0, 0), (0, 0), (0, 0), (2, (L + 11)), (2, (L + 12)), (2, (L + 13)), (2, (L + 14)), (2, (L + 15)), (2, (L + 16)), (2, (L + 17)), (2, (L + 18)), (2, (L + 19)), (2, (L + 20)), (0, 0), (2, (L + 21)), (2, (L + 22)), (0, 0), (0, 0), (2, (L + 23)), (0, 0), (0, 0), (2, (L + 24)), (2, (L + 25)), (2, (L + 26)), (2, (L + 27)), (0, 0), (0, 0), (0, 0), (2, (L + 28)), (2, (L + 29)), (2, (L + 30)), (2, (L + 31)), (2, (L + 32)), (0, 0), (0, 0), (0, 0), (0, 0), (2, (L + 33)), (2, (L + 34)), (2, (L + 35)), (2, (L + 36)), (0, 0), (2, (L + 37)), (2, (L + 38)), (2, (L + 39)), (2, (L + 40)), (0, 0), (0, 0), (2, (L + 41)), (2, (L + 42)), (2, (L + 43)), (2, (L + 44)), (3, 0), (3, 0), (3, 0), (0, 0), (0, 0)])) :: (T44 ++ [.inr (0, 8, [])])) s9 45 91172 404 [(0, .ref (gB g + L))] [.ref (gB g + (L + 45)), .ref (gB g + L)]
    obtain ⟨T45, hT45⟩ : ∃ y : List Sh, y = T44 ++ [.inr (0, 8, [])] := ⟨_, rfl⟩
    have hm45 : T45.length + 1 = 46 := by rw [hT45, List.length_append]; have := hm44; simp only [List.length_cons, List.length_nil]; omega
    have eT45 : T45 = RT_BM_init_45 L := by rw [hT45, eT44]; rfl
    rw [← hT45]
    refine a_putF (pc := 404) (i := L) (r := (L + 45)) fp_BM_150 (Or.inr ⟨_, rfl⟩) rfl rfl (pb_g hL) rfl d_BM_init_404 ?_
    rw [pb_s hL]
    show Ax g m_BM_init 47 91536 _ (P ++ (.inl (12, [(0, 0), (2, (L + 1)), (2, (L + 2)), (2, (L + 3)), (2, (L + 4)), (2, (L + 5)), (2, (L + 6)), (2, (L + 7)), (2, (L + 8)), (2, (L + 9)), (2, (L + 10)), (0, 0), (0, 0), (0, 0), (0, 0), (0, 0), (0, 0), (0, 0), (0, 0), (0, 0), (0, 0), (0, 0), (2, (L + 11)), (2, (L + 12)), (2, (L + 13)), (2, (L + 14)), (2, (L + 15)), (2, (L + 16)), (2, (L + 17)), (2, (L + 18)), (2, (L + 19)), (2, (L + 20)), (0, 0), (2, (L + 21)), (2, (L + 22)), (0, 0), (0, 0), (2, (L + 23)), (0, 0), (0, 0), (2, (L + 24)), (2, (L + 25)), (2, (L + 26)), (2, (L + 27)), (0, 0), (0, 0), (0, 0), (2, (L + 28)), (2, (L + 29)), (2, (L + 30)), (2, (L + 31)), (2, (L + 32)), (0, 0), (0, 0), (0, 0), (0, 0), (2, (L + 33)), (2, (L + 34)), (2, (L + 35)), (2, (L + 36)), (0, 0), (2, (L + 37)), (2, (L + 38)), (2, (L + 39)), (2, (L + 40)), (0, 0), (0, 0), (2, (L + 41)), (2, (L + 42)), (2, (L + 43)), (2, (L + 44)), (2, (L + 45)), (3, 0), (3, 0), (0, 0), (0, 0)])) :: T45) s9 45 91172 407 [(0, .ref (gB g + L))] []
    refine a_aload_n (pc := 407) 0 rfl rfl d_BM_init_407 ?_
    refine a_sipush (pc := 408) (360 : Int32) (by decide) d_BM_init_408 ?_
    refine a_newi (pc := 411) (atype := .int) (kd := 0) (N := 360) rfl (Or.inl ⟨rfl, rfl⟩) tw54 (by rw [(pb_n hL hm45)]; exact hz9 _ (by omega)) (by decide) (by decide) (by decide) (Nat.le_of_ble_eq_true rfl) (Nat.le_of_ble_eq_true rfl) d_BM_init_411 ?_
    rw [(pb_n hL hm45), pb_push]
    show Ax g m_BM_init 47 91536 _ (P ++ (.inl (12, [(0, 0), (2, (L + 1)), (2, (L + 2)), (2, (L + 3)), (2, (L + 4)), (2, (L + 5)), (2, (L + 6)), (2, (L + 7)), (2, (L + 8)), (2, (L + 9)), (2, (L + 10)), (0, 0), (0, 0), (0, 0), (0, 0), (0, 0), (0, 0), (0, 0), (0, 0), (0, 0), (0, 0), (0, 0), (2, (L + 11)), (2, (L + 12)), (2, (L + 13)), (2, (L + 14)), (2, (L + 15)), (2, (L + 16)), (2, (L + 17)), (2, (L + 18)), (2, (L + 19)), (2, (L + 20)), (0, 0), (2, (L + 21)), (2, (L + 22)), (0, 0), (0, 0), (2, (L + 23)), (0, 0), (0, 0), (2, (L + 24)), (2, (L + 25)), (2, (L + 26)), (2, (L + 27)), (0, 0), (0, 0), (0, 0), (2, (L + 28)), (2, (L + 29)), (2, (L + 30)), (2, (L + 31)), (2, (L + 32)), (0, 0), (0, 0), (0, 0), (0, 0), (2, (L + 33)), (2, (L + 34)), (2, (L + 35)), (2, (L + 36)), (0, 0), (2, (L + 37)), (2, (L + 38)), (2, (L + 39)), (2, (L + 40)), (0, 0), (0, 0), (2, (L + 41)), (2, (L + 42)), (2, (L + 43)), (2, (L + 44)), (2, (L + 45)), (3, 0), (3, 0), (0, 0), (0, 0)])) :: (T45 ++ [.inr (0, 360, [])])) s9 46 91532 413 [(0, .ref (gB g + L))] [.ref (gB g + (L + 46)), .ref (gB g + L)]
    obtain ⟨T46, hT46⟩ : ∃ y : List Sh, y = T45 ++ [.inr (0, 360, [])] := ⟨_, rfl⟩
    have hm46 : T46.length + 1 = 47 := by rw [hT46, List.length_append]; have := hm45; simp only [List.length_cons, List.length_nil]; omega
    have eT46 : T46 = RT_BM_init_46 L := by rw [hT46, eT45]; rfl
    rw [← hT46]
    refine a_putF (pc := 413) (i := L) (r := (L + 46)) fp_BM_153 (Or.inr ⟨_, rfl⟩) rfl rfl (pb_g hL) rfl d_BM_init_413 ?_
    rw [pb_s hL]
    show Ax g m_BM_init 47 91536 _ (P ++ (.inl (12, [(0, 0), (2, (L + 1)), (2, (L + 2)), (2, (L + 3)), (2, (L + 4)), (2, (L + 5)), (2, (L + 6)), (2, (L + 7)), (2, (L + 8)), (2, (L + 9)), (2, (L + 10)), (0, 0), (0, 0), (0, 0), (0, 0), (0, 0), (0, 0), (0, 0), (0, 0), (0, 0), (0, 0), (0, 0), (2, (L + 11)), (2, (L + 12)), (2, (L + 13)), (2, (L + 14)), (2, (L + 15)), (2, (L + 16)), (2, (L + 17)), (2, (L + 18)), (2, (L + 19)), (2, (L + 20)), (0, 0), (2, (L + 21)), (2, (L + 22)), (0, 0), (0, 0), (2, (L + 23)), (0, 0), (0, 0), (2, (L + 24)), (2, (L + 25)), (2, (L + 26)), (2, (L + 27)), (0, 0), (0, 0), (0, 0), (2, (L + 28)), (2, (L + 29)), (2, (L + 30)), (2, (L + 31)), (2, (L + 32)), (0, 0), (0, 0), (0, 0), (0, 0), (2, (L + 33)), (2, (L + 34)), (2, (L + 35)), (2, (L + 36)), (0, 0), (2, (L + 37)), (2, (L + 38)), (2, (L + 39)), (2, (L + 40)), (0, 0), (0, 0), (2, (L + 41)), (2, (L + 42)), (2, (L + 43)), (2, (L + 44)), (2, (L + 45)), (2, (L + 46)), (3, 0), (0, 0), (0, 0)])) :: T46) s9 46 91532 416 [(0, .ref (gB g + L))] []
    refine a_aload_n (pc := 416) 0 rfl rfl d_BM_init_416 ?_
    refine a_iconst (pc := 417) (4 : Int32) (by decide) d_BM_init_417 ?_
    refine a_newi (pc := 418) (atype := .boolean) (kd := 3) (N := 4) rfl (Or.inr (Or.inr (Or.inr ⟨rfl, rfl⟩))) tw1478 (by rw [(pb_n hL hm46)]; exact hz9 _ (by omega)) (by decide) (by decide) (by decide) (Nat.le_of_ble_eq_true rfl) (Nat.le_of_ble_eq_true rfl) d_BM_init_418 ?_
    rw [(pb_n hL hm46), pb_push]
    show Ax g m_BM_init 47 91536 _ (P ++ (.inl (12, [(0, 0), (2, (L + 1)), (2, (L + 2)), (2, (L + 3)), (2, (L + 4)), (2, (L + 5)), (2, (L + 6)), (2, (L + 7)), (2, (L + 8)), (2, (L + 9)), (2, (L + 10)), (0, 0), (0, 0), (0, 0), (0, 0), (0, 0), (0, 0), (0, 0), (0, 0), (0, 0), (0, 0), (0, 0), (2, (L + 11)), (2, (L + 12)), (2, (L + 13)), (2, (L + 14)), (2, (L + 15)), (2, (L + 16)), (2, (L + 17)), (2, (L + 18)), (2, (L + 19)), (2, (L + 20)), (0, 0), (2, (L + 21)), (2, (L + 22)), (0, 0), (0, 0), (2, (L + 23)), (0, 0), (0, 0), (2, (L + 24)), (2, (L + 25)), (2, (L + 26)), (2, (L + 27)), (0, 0), (0, 0), (0, 0), (2, (L + 28)), (2, (L + 29)), (2, (L + 30)), (2, (L + 31)), (2, (L + 32)), (0, 0), (0, 0), (0, 0), (0, 0), (2, (L + 33)), (2, (L + 34)), (2, (L + 35)), (2, (L + 36)), (0, 0), (2, (L + 37)), (2, (L + 38)), (2, (L + 39)), (2, (L + 40)), (0, 0), (0, 0), (2, (L + 41)), (2, (L + 42)), (2, (L + 43)), (2, (L + 44)), (2, (L + 45)), (2, (L + 46)), (3, 0), (0, 0), (0, 0)])) :: (T46 ++ [.inr (3, 4, [])])) s9 47 91536 420 [(0, .ref (gB g + L))] [.ref (gB g + (L + 47)), .ref (gB g + L)]
    obtain ⟨T47, hT47⟩ : ∃ y : List Sh, y = T46 ++ [.inr (3, 4, [])] := ⟨_, rfl⟩
    have hm47 : T47.length + 1 = 48 := by rw [hT47, List.length_append]; have := hm46; simp only [List.length_cons, List.length_nil]; omega
    have eT47 : T47 = RT_BM_init_47 L := by rw [hT47, eT46]; rfl
    rw [← hT47]
    refine a_putF (pc := 420) (i := L) (r := (L + 47)) fp_BM_156 (Or.inr ⟨_, rfl⟩) rfl rfl (pb_g hL) rfl d_BM_init_420 ?_
    rw [pb_s hL]
    show Ax g m_BM_init 47 91536 _ (P ++ (.inl (12, [(0, 0), (2, (L + 1)), (2, (L + 2)), (2, (L + 3)), (2, (L + 4)), (2, (L + 5)), (2, (L + 6)), (2, (L + 7)), (2, (L + 8)), (2, (L + 9)), (2, (L + 10)), (0, 0), (0, 0), (0, 0), (0, 0), (0, 0), (0, 0), (0, 0), (0, 0), (0, 0), (0, 0), (0, 0), (2, (L + 11)), (2, (L + 12)), (2, (L + 13)), (2, (L + 14)), (2, (L + 15)), (2, (L + 16)), (2, (L + 17)), (2, (L + 18)), (2, (L + 19)), (2, (L + 20)), (0, 0), (2, (L + 21)), (2, (L + 22)), (0, 0), (0, 0), (2, (L + 23)), (0, 0), (0, 0), (2, (L + 24)), (2, (L + 25)), (2, (L + 26)), (2, (L + 27)), (0, 0), (0, 0), (0, 0), (2, (L + 28)), (2, (L + 29)), (2, (L + 30)), (2, (L + 31)), (2, (L + 32)), (0, 0), (0, 0), (0, 0), (0, 0), (2, (L + 33)), (2, (L + 34)), (2, (L + 35)), (2, (L + 36)), (0, 0), (2, (L + 37)), (2, (L + 38)), (2, (L + 39)), (2, (L + 40)), (0, 0), (0, 0), (2, (L + 41)), (2, (L + 42)), (2, (L + 43)), (2, (L + 44)), (2, (L + 45)), (2, (L + 46)), (2, (L + 47)), (0, 0), (0, 0)])) :: T47) s9 47 91536 423 [(0, .ref (gB g + L))] []
    refine a_vret (pc := 423) rfl (by rw [pb_n hL hm47]; simp [List.length_append] <;> omega) rfl (Nat.le_refl _) d_BM_init_423 ⟨rfl, ?_, ?_⟩
    · rw [eT47]; rfl
    · rw [hs9, hs8, hs7, hs6, hs5, hs4, hs3, hs2, hs1]; rfl
  rw [← e0] at key
  exact key
