theorem d_LW_law_0 : decode code 0 = .ok (.new 7, 3) := by decide +kernel
theorem d_LW_law_3 : decode code 3 = .ok (.dup, 1) := by decide +kernel
theorem d_LW_law_4 : decode code 4 = .ok (.invokespecial 9, 3) := by decide +kernel
theorem d_LW_law_7 : decode code 7 = .ok (.astore_n 1, 1) := by decide +kernel
theorem d_LW_law_8 : decode code 8 = .ok (.new 10, 3) := by decide +kernel
theorem d_LW_law_11 : decode code 11 = .ok (.dup, 1) := by decide +kernel
theorem d_LW_law_12 : decode code 12 = .ok (.invokespecial 12, 3) := by decide +kernel
theorem d_LW_law_15 : decode code 15 = .ok (.astore_n 2, 1) := by decide +kernel
theorem d_LW_law_16 : decode code 16 = .ok (.iconst 0, 1) := by decide +kernel
theorem d_LW_law_17 : decode code 17 = .ok (.istore_n 3, 1) := by decide +kernel
theorem d_LW_law_18 : decode code 18 = .ok (.iload_n 3, 1) := by decide +kernel
theorem d_LW_law_19 : decode code 19 = .ok (.aload_n 0, 1) := by decide +kernel
theorem d_LW_law_20 : decode code 20 = .ok (.arraylength, 1) := by decide +kernel
theorem d_LW_law_21 : decode code 21 = .ok (.bipush 6, 2) := by decide +kernel
theorem d_LW_law_23 : decode code 23 = .ok (.isub, 1) := by decide +kernel
theorem d_LW_law_24 : decode code 24 = .ok (.if_icmp .gt 1052, 3) := by decide +kernel
theorem d_LW_law_27 : decode code 27 = .ok (.aload_n 0, 1) := by decide +kernel
theorem d_LW_law_28 : decode code 28 = .ok (.iload_n 3, 1) := by decide +kernel
theorem d_LW_law_29 : decode code 29 = .ok (.iaload, 1) := by decide +kernel
theorem d_LW_law_30 : decode code 30 = .ok (.bipush 31, 2) := by decide +kernel
theorem d_LW_law_32 : decode code 32 = .ok (.iand, 1) := by decide +kernel
theorem d_LW_law_33 : decode code 33 = .ok (.tableswitch 1037 0 31 #[143, 206, 229, 242, 255, 278, 321, 354, 397, 456, 479, 502, 525, 548, 582, 595, 618, 651, 674, 697, 720, 763, 786, 810, 833, 866, 879, 902, 925, 968, 991, 1014], 143) := by decide +kernel
theorem d_LW_law_176 : decode code 176 = .ok (.aload_n 1, 1) := by decide +kernel
theorem d_LW_law_177 : decode code 177 = .ok (.aload_n 0, 1) := by decide +kernel
theorem d_LW_law_178 : decode code 178 = .ok (.iload_n 3, 1) := by decide +kernel
theorem d_LW_law_179 : decode code 179 = .ok (.iconst 1, 1) := by decide +kernel
theorem d_LW_law_180 : decode code 180 = .ok (.iadd, 1) := by decide +kernel
theorem d_LW_law_181 : decode code 181 = .ok (.iaload, 1) := by decide +kernel
theorem d_LW_law_182 : decode code 182 = .ok (.aload_n 0, 1) := by decide +kernel
theorem d_LW_law_183 : decode code 183 = .ok (.iload_n 3, 1) := by decide +kernel
theorem d_LW_law_184 : decode code 184 = .ok (.iconst 2, 1) := by decide +kernel
theorem d_LW_law_185 : decode code 185 = .ok (.iadd, 1) := by decide +kernel
theorem d_LW_law_186 : decode code 186 = .ok (.iaload, 1) := by decide +kernel
theorem d_LW_law_187 : decode code 187 = .ok (.aload_n 0, 1) := by decide +kernel
theorem d_LW_law_188 : decode code 188 = .ok (.iload_n 3, 1) := by decide +kernel
theorem d_LW_law_189 : decode code 189 = .ok (.iconst 3, 1) := by decide +kernel
theorem d_LW_law_190 : decode code 190 = .ok (.iadd, 1) := by decide +kernel
theorem d_LW_law_191 : decode code 191 = .ok (.iaload, 1) := by decide +kernel
theorem d_LW_law_192 : decode code 192 = .ok (.aload_n 0, 1) := by decide +kernel
theorem d_LW_law_193 : decode code 193 = .ok (.iload_n 3, 1) := by decide +kernel
theorem d_LW_law_194 : decode code 194 = .ok (.iconst 4, 1) := by decide +kernel
theorem d_LW_law_195 : decode code 195 = .ok (.iadd, 1) := by decide +kernel
theorem d_LW_law_196 : decode code 196 = .ok (.iaload, 1) := by decide +kernel
theorem d_LW_law_197 : decode code 197 = .ok (.aload_n 0, 1) := by decide +kernel
theorem d_LW_law_198 : decode code 198 = .ok (.iload_n 3, 1) := by decide +kernel
theorem d_LW_law_199 : decode code 199 = .ok (.iconst 5, 1) := by decide +kernel
theorem d_LW_law_200 : decode code 200 = .ok (.iadd, 1) := by decide +kernel
theorem d_LW_law_201 : decode code 201 = .ok (.iaload, 1) := by decide +kernel
theorem d_LW_law_202 : decode code 202 = .ok (.invokevirtual 13, 3) := by decide +kernel
theorem d_LW_law_205 : decode code 205 = .ok (.aload_n 2, 1) := by decide +kernel
theorem d_LW_law_206 : decode code 206 = .ok (.aload_n 0, 1) := by decide +kernel
theorem d_LW_law_207 : decode code 207 = .ok (.iload_n 3, 1) := by decide +kernel
theorem d_LW_law_208 : decode code 208 = .ok (.iconst 1, 1) := by decide +kernel
theorem d_LW_law_209 : decode code 209 = .ok (.iadd, 1) := by decide +kernel
theorem d_LW_law_210 : decode code 210 = .ok (.iaload, 1) := by decide +kernel
theorem d_LW_law_211 : decode code 211 = .ok (.aload_n 0, 1) := by decide +kernel
theorem d_LW_law_212 : decode code 212 = .ok (.iload_n 3, 1) := by decide +kernel
theorem d_LW_law_213 : decode code 213 = .ok (.iconst 2, 1) := by decide +kernel
theorem d_LW_law_214 : decode code 214 = .ok (.iadd, 1) := by decide +kernel
theorem d_LW_law_215 : decode code 215 = .ok (.iaload, 1) := by decide +kernel
theorem d_LW_law_216 : decode code 216 = .ok (.aload_n 0, 1) := by decide +kernel
theorem d_LW_law_217 : decode code 217 = .ok (.iload_n 3, 1) := by decide +kernel
theorem d_LW_law_218 : decode code 218 = .ok (.iconst 3, 1) := by decide +kernel
theorem d_LW_law_219 : decode code 219 = .ok (.iadd, 1) := by decide +kernel
theorem d_LW_law_220 : decode code 220 = .ok (.iaload, 1) := by decide +kernel
theorem d_LW_law_221 : decode code 221 = .ok (.aload_n 0, 1) := by decide +kernel
theorem d_LW_law_222 : decode code 222 = .ok (.iload_n 3, 1) := by decide +kernel
theorem d_LW_law_223 : decode code 223 = .ok (.iconst 4, 1) := by decide +kernel
theorem d_LW_law_224 : decode code 224 = .ok (.iadd, 1) := by decide +kernel
theorem d_LW_law_225 : decode code 225 = .ok (.iaload, 1) := by decide +kernel
theorem d_LW_law_226 : decode code 226 = .ok (.aload_n 0, 1) := by decide +kernel
theorem d_LW_law_227 : decode code 227 = .ok (.iload_n 3, 1) := by decide +kernel
theorem d_LW_law_228 : decode code 228 = .ok (.iconst 5, 1) := by decide +kernel
theorem d_LW_law_229 : decode code 229 = .ok (.iadd, 1) := by decide +kernel
theorem d_LW_law_230 : decode code 230 = .ok (.iaload, 1) := by decide +kernel
theorem d_LW_law_231 : decode code 231 = .ok (.invokevirtual 17, 3) := by decide +kernel
theorem d_LW_law_234 : decode code 234 = .ok (.if_icmp .eq 836, 3) := by decide +kernel
theorem d_LW_law_237 : decode code 237 = .ok (.iconst 0, 1) := by decide +kernel
theorem d_LW_law_238 : decode code 238 = .ok (.ireturn, 1) := by decide +kernel
theorem d_LW_law_239 : decode code 239 = .ok (.aload_n 1, 1) := by decide +kernel
theorem d_LW_law_240 : decode code 240 = .ok (.aload_n 0, 1) := by decide +kernel
theorem d_LW_law_241 : decode code 241 = .ok (.iload_n 3, 1) := by decide +kernel
theorem d_LW_law_242 : decode code 242 = .ok (.iconst 1, 1) := by decide +kernel
theorem d_LW_law_243 : decode code 243 = .ok (.iadd, 1) := by decide +kernel
theorem d_LW_law_244 : decode code 244 = .ok (.iaload, 1) := by decide +kernel
theorem d_LW_law_245 : decode code 245 = .ok (.invokevirtual 18, 3) := by decide +kernel
theorem d_LW_law_248 : decode code 248 = .ok (.aload_n 2, 1) := by decide +kernel
theorem d_LW_law_249 : decode code 249 = .ok (.aload_n 0, 1) := by decide +kernel
theorem d_LW_law_250 : decode code 250 = .ok (.iload_n 3, 1) := by decide +kernel
theorem d_LW_law_251 : decode code 251 = .ok (.iconst 1, 1) := by decide +kernel
theorem d_LW_law_252 : decode code 252 = .ok (.iadd, 1) := by decide +kernel
theorem d_LW_law_253 : decode code 253 = .ok (.iaload, 1) := by decide +kernel
theorem d_LW_law_254 : decode code 254 = .ok (.invokevirtual 22, 3) := by decide +kernel
theorem d_LW_law_257 : decode code 257 = .ok (.if_icmp .eq 813, 3) := by decide +kernel
theorem d_LW_law_260 : decode code 260 = .ok (.iconst 0, 1) := by decide +kernel
theorem d_LW_law_261 : decode code 261 = .ok (.ireturn, 1) := by decide +kernel
theorem d_LW_law_262 : decode code 262 = .ok (.aload_n 1, 1) := by decide +kernel
theorem d_LW_law_263 : decode code 263 = .ok (.invokevirtual 23, 3) := by decide +kernel
theorem d_LW_law_266 : decode code 266 = .ok (.aload_n 2, 1) := by decide +kernel
theorem d_LW_law_267 : decode code 267 = .ok (.invokevirtual 27, 3) := by decide +kernel
theorem d_LW_law_270 : decode code 270 = .ok (.if_icmp .eq 800, 3) := by decide +kernel
theorem d_LW_law_273 : decode code 273 = .ok (.iconst 0, 1) := by decide +kernel
theorem d_LW_law_274 : decode code 274 = .ok (.ireturn, 1) := by decide +kernel
theorem d_LW_law_275 : decode code 275 = .ok (.aload_n 1, 1) := by decide +kernel
theorem d_LW_law_276 : decode code 276 = .ok (.invokevirtual 28, 3) := by decide +kernel
theorem d_LW_law_279 : decode code 279 = .ok (.aload_n 2, 1) := by decide +kernel
theorem d_LW_law_280 : decode code 280 = .ok (.invokevirtual 31, 3) := by decide +kernel
theorem d_LW_law_283 : decode code 283 = .ok (.if_icmp .eq 787, 3) := by decide +kernel
theorem d_LW_law_286 : decode code 286 = .ok (.iconst 0, 1) := by decide +kernel
theorem d_LW_law_287 : decode code 287 = .ok (.ireturn, 1) := by decide +kernel
theorem d_LW_law_288 : decode code 288 = .ok (.aload_n 1, 1) := by decide +kernel
theorem d_LW_law_289 : decode code 289 = .ok (.aload_n 0, 1) := by decide +kernel
theorem d_LW_law_290 : decode code 290 = .ok (.iload_n 3, 1) := by decide +kernel
theorem d_LW_law_291 : decode code 291 = .ok (.iconst 1, 1) := by decide +kernel
theorem d_LW_law_292 : decode code 292 = .ok (.iadd, 1) := by decide +kernel
theorem d_LW_law_293 : decode code 293 = .ok (.iaload, 1) := by decide +kernel
theorem d_LW_law_294 : decode code 294 = .ok (.invokevirtual 32, 3) := by decide +kernel
theorem d_LW_law_297 : decode code 297 = .ok (.aload_n 2, 1) := by decide +kernel
theorem d_LW_law_298 : decode code 298 = .ok (.aload_n 0, 1) := by decide +kernel
theorem d_LW_law_299 : decode code 299 = .ok (.iload_n 3, 1) := by decide +kernel
theorem d_LW_law_300 : decode code 300 = .ok (.iconst 1, 1) := by decide +kernel
theorem d_LW_law_301 : decode code 301 = .ok (.iadd, 1) := by decide +kernel
theorem d_LW_law_302 : decode code 302 = .ok (.iaload, 1) := by decide +kernel
theorem d_LW_law_303 : decode code 303 = .ok (.invokevirtual 35, 3) := by decide +kernel
theorem d_LW_law_306 : decode code 306 = .ok (.if_icmp .eq 764, 3) := by decide +kernel
theorem d_LW_law_309 : decode code 309 = .ok (.iconst 0, 1) := by decide +kernel
theorem d_LW_law_310 : decode code 310 = .ok (.ireturn, 1) := by decide +kernel
theorem d_LW_law_311 : decode code 311 = .ok (.aload_n 1, 1) := by decide +kernel
theorem d_LW_law_312 : decode code 312 = .ok (.aload_n 0, 1) := by decide +kernel
theorem d_LW_law_313 : decode code 313 = .ok (.iload_n 3, 1) := by decide +kernel
theorem d_LW_law_314 : decode code 314 = .ok (.iconst 1, 1) := by decide +kernel
theorem d_LW_law_315 : decode code 315 = .ok (.iadd, 1) := by decide +kernel
theorem d_LW_law_316 : decode code 316 = .ok (.iaload, 1) := by decide +kernel
theorem d_LW_law_317 : decode code 317 = .ok (.aload_n 0, 1) := by decide +kernel
theorem d_LW_law_318 : decode code 318 = .ok (.iload_n 3, 1) := by decide +kernel
theorem d_LW_law_319 : decode code 319 = .ok (.iconst 2, 1) := by decide +kernel
theorem d_LW_law_320 : decode code 320 = .ok (.iadd, 1) := by decide +kernel
theorem d_LW_law_321 : decode code 321 = .ok (.iaload, 1) := by decide +kernel
theorem d_LW_law_322 : decode code 322 = .ok (.aload_n 0, 1) := by decide +kernel
theorem d_LW_law_323 : decode code 323 = .ok (.iload_n 3, 1) := by decide +kernel
theorem d_LW_law_324 : decode code 324 = .ok (.iconst 3, 1) := by decide +kernel
theorem d_LW_law_325 : decode code 325 = .ok (.iadd, 1) := by decide +kernel
theorem d_LW_law_326 : decode code 326 = .ok (.iaload, 1) := by decide +kernel
theorem d_LW_law_327 : decode code 327 = .ok (.invokevirtual 36, 3) := by decide +kernel
theorem d_LW_law_330 : decode code 330 = .ok (.aload_n 2, 1) := by decide +kernel
theorem d_LW_law_331 : decode code 331 = .ok (.aload_n 0, 1) := by decide +kernel
theorem d_LW_law_332 : decode code 332 = .ok (.iload_n 3, 1) := by decide +kernel
theorem d_LW_law_333 : decode code 333 = .ok (.iconst 1, 1) := by decide +kernel
theorem d_LW_law_334 : decode code 334 = .ok (.iadd, 1) := by decide +kernel
theorem d_LW_law_335 : decode code 335 = .ok (.iaload, 1) := by decide +kernel
theorem d_LW_law_336 : decode code 336 = .ok (.aload_n 0, 1) := by decide +kernel
theorem d_LW_law_337 : decode code 337 = .ok (.iload_n 3, 1) := by decide +kernel
theorem d_LW_law_338 : decode code 338 = .ok (.iconst 2, 1) := by decide +kernel
theorem d_LW_law_339 : decode code 339 = .ok (.iadd, 1) := by decide +kernel
theorem d_LW_law_340 : decode code 340 = .ok (.iaload, 1) := by decide +kernel
theorem d_LW_law_341 : decode code 341 = .ok (.aload_n 0, 1) := by decide +kernel
theorem d_LW_law_342 : decode code 342 = .ok (.iload_n 3, 1) := by decide +kernel
theorem d_LW_law_343 : decode code 343 = .ok (.iconst 3, 1) := by decide +kernel
theorem d_LW_law_344 : decode code 344 = .ok (.iadd, 1) := by decide +kernel
theorem d_LW_law_345 : decode code 345 = .ok (.iaload, 1) := by decide +kernel
theorem d_LW_law_346 : decode code 346 = .ok (.invokevirtual 40, 3) := by decide +kernel
theorem d_LW_law_349 : decode code 349 = .ok (.if_icmp .eq 721, 3) := by decide +kernel
theorem d_LW_law_352 : decode code 352 = .ok (.iconst 0, 1) := by decide +kernel
theorem d_LW_law_353 : decode code 353 = .ok (.ireturn, 1) := by decide +kernel
theorem d_LW_law_354 : decode code 354 = .ok (.aload_n 1, 1) := by decide +kernel
theorem d_LW_law_355 : decode code 355 = .ok (.aload_n 0, 1) := by decide +kernel
theorem d_LW_law_356 : decode code 356 = .ok (.iload_n 3, 1) := by decide +kernel
theorem d_LW_law_357 : decode code 357 = .ok (.iconst 1, 1) := by decide +kernel
theorem d_LW_law_358 : decode code 358 = .ok (.iadd, 1) := by decide +kernel
theorem d_LW_law_359 : decode code 359 = .ok (.iaload, 1) := by decide +kernel
theorem d_LW_law_360 : decode code 360 = .ok (.aload_n 0, 1) := by decide +kernel
theorem d_LW_law_361 : decode code 361 = .ok (.iload_n 3, 1) := by decide +kernel
theorem d_LW_law_362 : decode code 362 = .ok (.iconst 2, 1) := by decide +kernel
theorem d_LW_law_363 : decode code 363 = .ok (.iadd, 1) := by decide +kernel
theorem d_LW_law_364 : decode code 364 = .ok (.iaload, 1) := by decide +kernel
theorem d_LW_law_365 : decode code 365 = .ok (.invokevirtual 41, 3) := by decide +kernel
theorem d_LW_law_368 : decode code 368 = .ok (.aload_n 2, 1) := by decide +kernel
theorem d_LW_law_369 : decode code 369 = .ok (.aload_n 0, 1) := by decide +kernel
theorem d_LW_law_370 : decode code 370 = .ok (.iload_n 3, 1) := by decide +kernel
theorem d_LW_law_371 : decode code 371 = .ok (.iconst 1, 1) := by decide +kernel
theorem d_LW_law_372 : decode code 372 = .ok (.iadd, 1) := by decide +kernel
theorem d_LW_law_373 : decode code 373 = .ok (.iaload, 1) := by decide +kernel
theorem d_LW_law_374 : decode code 374 = .ok (.aload_n 0, 1) := by decide +kernel
theorem d_LW_law_375 : decode code 375 = .ok (.iload_n 3, 1) := by decide +kernel
theorem d_LW_law_376 : decode code 376 = .ok (.iconst 2, 1) := by decide +kernel
theorem d_LW_law_377 : decode code 377 = .ok (.iadd, 1) := by decide +kernel
theorem d_LW_law_378 : decode code 378 = .ok (.iaload, 1) := by decide +kernel
theorem d_LW_law_379 : decode code 379 = .ok (.invokevirtual 45, 3) := by decide +kernel
theorem d_LW_law_382 : decode code 382 = .ok (.if_icmp .eq 688, 3) := by decide +kernel
theorem d_LW_law_385 : decode code 385 = .ok (.iconst 0, 1) := by decide +kernel
theorem d_LW_law_386 : decode code 386 = .ok (.ireturn, 1) := by decide +kernel
theorem d_LW_law_387 : decode code 387 = .ok (.aload_n 1, 1) := by decide +kernel
theorem d_LW_law_388 : decode code 388 = .ok (.aload_n 0, 1) := by decide +kernel
theorem d_LW_law_389 : decode code 389 = .ok (.iload_n 3, 1) := by decide +kernel
theorem d_LW_law_390 : decode code 390 = .ok (.iconst 1, 1) := by decide +kernel
theorem d_LW_law_391 : decode code 391 = .ok (.iadd, 1) := by decide +kernel
theorem d_LW_law_392 : decode code 392 = .ok (.iaload, 1) := by decide +kernel
theorem d_LW_law_393 : decode code 393 = .ok (.aload_n 0, 1) := by decide +kernel
theorem d_LW_law_394 : decode code 394 = .ok (.iload_n 3, 1) := by decide +kernel
theorem d_LW_law_395 : decode code 395 = .ok (.iconst 2, 1) := by decide +kernel
theorem d_LW_law_396 : decode code 396 = .ok (.iadd, 1) := by decide +kernel
theorem d_LW_law_397 : decode code 397 = .ok (.iaload, 1) := by decide +kernel
theorem d_LW_law_398 : decode code 398 = .ok (.aload_n 0, 1) := by decide +kernel
theorem d_LW_law_399 : decode code 399 = .ok (.iload_n 3, 1) := by decide +kernel
theorem d_LW_law_400 : decode code 400 = .ok (.iconst 3, 1) := by decide +kernel
theorem d_LW_law_401 : decode code 401 = .ok (.iadd, 1) := by decide +kernel
theorem d_LW_law_402 : decode code 402 = .ok (.iaload, 1) := by decide +kernel
theorem d_LW_law_403 : decode code 403 = .ok (.invokevirtual 46, 3) := by decide +kernel
theorem d_LW_law_406 : decode code 406 = .ok (.aload_n 2, 1) := by decide +kernel
theorem d_LW_law_407 : decode code 407 = .ok (.aload_n 0, 1) := by decide +kernel
theorem d_LW_law_408 : decode code 408 = .ok (.iload_n 3, 1) := by decide +kernel
theorem d_LW_law_409 : decode code 409 = .ok (.iconst 1, 1) := by decide +kernel
theorem d_LW_law_410 : decode code 410 = .ok (.iadd, 1) := by decide +kernel
theorem d_LW_law_411 : decode code 411 = .ok (.iaload, 1) := by decide +kernel
theorem d_LW_law_412 : decode code 412 = .ok (.aload_n 0, 1) := by decide +kernel
theorem d_LW_law_413 : decode code 413 = .ok (.iload_n 3, 1) := by decide +kernel
theorem d_LW_law_414 : decode code 414 = .ok (.iconst 2, 1) := by decide +kernel
theorem d_LW_law_415 : decode code 415 = .ok (.iadd, 1) := by decide +kernel
theorem d_LW_law_416 : decode code 416 = .ok (.iaload, 1) := by decide +kernel
theorem d_LW_law_417 : decode code 417 = .ok (.aload_n 0, 1) := by decide +kernel
theorem d_LW_law_418 : decode code 418 = .ok (.iload_n 3, 1) := by decide +kernel
theorem d_LW_law_419 : decode code 419 = .ok (.iconst 3, 1) := by decide +kernel
theorem d_LW_law_420 : decode code 420 = .ok (.iadd, 1) := by decide +kernel
theorem d_LW_law_421 : decode code 421 = .ok (.iaload, 1) := by decide +kernel
theorem d_LW_law_422 : decode code 422 = .ok (.invokevirtual 50, 3) := by decide +kernel
theorem d_LW_law_425 : decode code 425 = .ok (.if_icmp .eq 645, 3) := by decide +kernel
theorem d_LW_law_428 : decode code 428 = .ok (.iconst 0, 1) := by decide +kernel
theorem d_LW_law_429 : decode code 429 = .ok (.ireturn, 1) := by decide +kernel
theorem d_LW_law_430 : decode code 430 = .ok (.aload_n 1, 1) := by decide +kernel
theorem d_LW_law_431 : decode code 431 = .ok (.aload_n 0, 1) := by decide +kernel
theorem d_LW_law_432 : decode code 432 = .ok (.iload_n 3, 1) := by decide +kernel
theorem d_LW_law_433 : decode code 433 = .ok (.iconst 1, 1) := by decide +kernel
theorem d_LW_law_434 : decode code 434 = .ok (.iadd, 1) := by decide +kernel
theorem d_LW_law_435 : decode code 435 = .ok (.iaload, 1) := by decide +kernel
theorem d_LW_law_436 : decode code 436 = .ok (.aload_n 0, 1) := by decide +kernel
theorem d_LW_law_437 : decode code 437 = .ok (.iload_n 3, 1) := by decide +kernel
theorem d_LW_law_438 : decode code 438 = .ok (.iconst 2, 1) := by decide +kernel
theorem d_LW_law_439 : decode code 439 = .ok (.iadd, 1) := by decide +kernel
theorem d_LW_law_440 : decode code 440 = .ok (.iaload, 1) := by decide +kernel
theorem d_LW_law_441 : decode code 441 = .ok (.aload_n 0, 1) := by decide +kernel
theorem d_LW_law_442 : decode code 442 = .ok (.iload_n 3, 1) := by decide +kernel
theorem d_LW_law_443 : decode code 443 = .ok (.iconst 3, 1) := by decide +kernel
theorem d_LW_law_444 : decode code 444 = .ok (.iadd, 1) := by decide +kernel
theorem d_LW_law_445 : decode code 445 = .ok (.iaload, 1) := by decide +kernel
theorem d_LW_law_446 : decode code 446 = .ok (.ifCond .eq 7, 3) := by decide +kernel
theorem d_LW_law_449 : decode code 449 = .ok (.iconst 1, 1) := by decide +kernel
theorem d_LW_law_450 : decode code 450 = .ok (.goto 4, 3) := by decide +kernel
theorem d_LW_law_453 : decode code 453 = .ok (.iconst 0, 1) := by decide +kernel
theorem d_LW_law_454 : decode code 454 = .ok (.invokevirtual 51, 3) := by decide +kernel
theorem d_LW_law_457 : decode code 457 = .ok (.aload_n 2, 1) := by decide +kernel
theorem d_LW_law_458 : decode code 458 = .ok (.aload_n 0, 1) := by decide +kernel
theorem d_LW_law_459 : decode code 459 = .ok (.iload_n 3, 1) := by decide +kernel
theorem d_LW_law_460 : decode code 460 = .ok (.iconst 1, 1) := by decide +kernel
theorem d_LW_law_461 : decode code 461 = .ok (.iadd, 1) := by decide +kernel
theorem d_LW_law_462 : decode code 462 = .ok (.iaload, 1) := by decide +kernel
theorem d_LW_law_463 : decode code 463 = .ok (.aload_n 0, 1) := by decide +kernel
theorem d_LW_law_464 : decode code 464 = .ok (.iload_n 3, 1) := by decide +kernel
theorem d_LW_law_465 : decode code 465 = .ok (.iconst 2, 1) := by decide +kernel
theorem d_LW_law_466 : decode code 466 = .ok (.iadd, 1) := by decide +kernel
theorem d_LW_law_467 : decode code 467 = .ok (.iaload, 1) := by decide +kernel
theorem d_LW_law_468 : decode code 468 = .ok (.aload_n 0, 1) := by decide +kernel
theorem d_LW_law_469 : decode code 469 = .ok (.iload_n 3, 1) := by decide +kernel
theorem d_LW_law_470 : decode code 470 = .ok (.iconst 3, 1) := by decide +kernel
theorem d_LW_law_471 : decode code 471 = .ok (.iadd, 1) := by decide +kernel
theorem d_LW_law_472 : decode code 472 = .ok (.iaload, 1) := by decide +kernel
theorem d_LW_law_473 : decode code 473 = .ok (.ifCond .eq 7, 3) := by decide +kernel
theorem d_LW_law_476 : decode code 476 = .ok (.iconst 1, 1) := by decide +kernel
theorem d_LW_law_477 : decode code 477 = .ok (.goto 4, 3) := by decide +kernel
theorem d_LW_law_480 : decode code 480 = .ok (.iconst 0, 1) := by decide +kernel
theorem d_LW_law_481 : decode code 481 = .ok (.invokevirtual 55, 3) := by decide +kernel
theorem d_LW_law_484 : decode code 484 = .ok (.if_icmp .eq 586, 3) := by decide +kernel
theorem d_LW_law_487 : decode code 487 = .ok (.iconst 0, 1) := by decide +kernel
theorem d_LW_law_488 : decode code 488 = .ok (.ireturn, 1) := by decide +kernel
theorem d_LW_law_489 : decode code 489 = .ok (.aload_n 1, 1) := by decide +kernel
theorem d_LW_law_490 : decode code 490 = .ok (.aload_n 0, 1) := by decide +kernel
theorem d_LW_law_491 : decode code 491 = .ok (.iload_n 3, 1) := by decide +kernel
theorem d_LW_law_492 : decode code 492 = .ok (.iconst 1, 1) := by decide +kernel
theorem d_LW_law_493 : decode code 493 = .ok (.iadd, 1) := by decide +kernel
theorem d_LW_law_494 : decode code 494 = .ok (.iaload, 1) := by decide +kernel
theorem d_LW_law_495 : decode code 495 = .ok (.invokevirtual 56, 3) := by decide +kernel
theorem d_LW_law_498 : decode code 498 = .ok (.aload_n 2, 1) := by decide +kernel
theorem d_LW_law_499 : decode code 499 = .ok (.aload_n 0, 1) := by decide +kernel
theorem d_LW_law_500 : decode code 500 = .ok (.iload_n 3, 1) := by decide +kernel
theorem d_LW_law_501 : decode code 501 = .ok (.iconst 1, 1) := by decide +kernel
theorem d_LW_law_502 : decode code 502 = .ok (.iadd, 1) := by decide +kernel
theorem d_LW_law_503 : decode code 503 = .ok (.iaload, 1) := by decide +kernel
theorem d_LW_law_504 : decode code 504 = .ok (.invokevirtual 59, 3) := by decide +kernel
theorem d_LW_law_507 : decode code 507 = .ok (.if_icmp .eq 563, 3) := by decide +kernel
theorem d_LW_law_510 : decode code 510 = .ok (.iconst 0, 1) := by decide +kernel
theorem d_LW_law_511 : decode code 511 = .ok (.ireturn, 1) := by decide +kernel
theorem d_LW_law_512 : decode code 512 = .ok (.aload_n 1, 1) := by decide +kernel
theorem d_LW_law_513 : decode code 513 = .ok (.aload_n 0, 1) := by decide +kernel
theorem d_LW_law_514 : decode code 514 = .ok (.iload_n 3, 1) := by decide +kernel
theorem d_LW_law_515 : decode code 515 = .ok (.iconst 1, 1) := by decide +kernel
theorem d_LW_law_516 : decode code 516 = .ok (.iadd, 1) := by decide +kernel
theorem d_LW_law_517 : decode code 517 = .ok (.iaload, 1) := by decide +kernel
theorem d_LW_law_518 : decode code 518 = .ok (.invokevirtual 60, 3) := by decide +kernel
theorem d_LW_law_521 : decode code 521 = .ok (.aload_n 2, 1) := by decide +kernel
theorem d_LW_law_522 : decode code 522 = .ok (.aload_n 0, 1) := by decide +kernel
theorem d_LW_law_523 : decode code 523 = .ok (.iload_n 3, 1) := by decide +kernel
theorem d_LW_law_524 : decode code 524 = .ok (.iconst 1, 1) := by decide +kernel
theorem d_LW_law_525 : decode code 525 = .ok (.iadd, 1) := by decide +kernel
theorem d_LW_law_526 : decode code 526 = .ok (.iaload, 1) := by decide +kernel
theorem d_LW_law_527 : decode code 527 = .ok (.invokevirtual 63, 3) := by decide +kernel
theorem d_LW_law_530 : decode code 530 = .ok (.if_icmp .eq 540, 3) := by decide +kernel
theorem d_LW_law_533 : decode code 533 = .ok (.iconst 0, 1) := by decide +kernel
theorem d_LW_law_534 : decode code 534 = .ok (.ireturn, 1) := by decide +kernel
theorem d_LW_law_535 : decode code 535 = .ok (.aload_n 1, 1) := by decide +kernel
theorem d_LW_law_536 : decode code 536 = .ok (.aload_n 0, 1) := by decide +kernel
theorem d_LW_law_537 : decode code 537 = .ok (.iload_n 3, 1) := by decide +kernel
theorem d_LW_law_538 : decode code 538 = .ok (.iconst 1, 1) := by decide +kernel
theorem d_LW_law_539 : decode code 539 = .ok (.iadd, 1) := by decide +kernel
theorem d_LW_law_540 : decode code 540 = .ok (.iaload, 1) := by decide +kernel
theorem d_LW_law_541 : decode code 541 = .ok (.invokevirtual 64, 3) := by decide +kernel
theorem d_LW_law_544 : decode code 544 = .ok (.aload_n 2, 1) := by decide +kernel
theorem d_LW_law_545 : decode code 545 = .ok (.aload_n 0, 1) := by decide +kernel
theorem d_LW_law_546 : decode code 546 = .ok (.iload_n 3, 1) := by decide +kernel
theorem d_LW_law_547 : decode code 547 = .ok (.iconst 1, 1) := by decide +kernel
theorem d_LW_law_548 : decode code 548 = .ok (.iadd, 1) := by decide +kernel
theorem d_LW_law_549 : decode code 549 = .ok (.iaload, 1) := by decide +kernel
theorem d_LW_law_550 : decode code 550 = .ok (.invokevirtual 67, 3) := by decide +kernel
theorem d_LW_law_553 : decode code 553 = .ok (.if_icmp .eq 517, 3) := by decide +kernel
theorem d_LW_law_556 : decode code 556 = .ok (.iconst 0, 1) := by decide +kernel
theorem d_LW_law_557 : decode code 557 = .ok (.ireturn, 1) := by decide +kernel
theorem d_LW_law_558 : decode code 558 = .ok (.aload_n 1, 1) := by decide +kernel
theorem d_LW_law_559 : decode code 559 = .ok (.aload_n 0, 1) := by decide +kernel
theorem d_LW_law_560 : decode code 560 = .ok (.iload_n 3, 1) := by decide +kernel
theorem d_LW_law_561 : decode code 561 = .ok (.iconst 1, 1) := by decide +kernel
theorem d_LW_law_562 : decode code 562 = .ok (.iadd, 1) := by decide +kernel
theorem d_LW_law_563 : decode code 563 = .ok (.iaload, 1) := by decide +kernel
theorem d_LW_law_564 : decode code 564 = .ok (.invokevirtual 68, 3) := by decide +kernel
theorem d_LW_law_567 : decode code 567 = .ok (.aload_n 2, 1) := by decide +kernel
theorem d_LW_law_568 : decode code 568 = .ok (.aload_n 0, 1) := by decide +kernel
theorem d_LW_law_569 : decode code 569 = .ok (.iload_n 3, 1) := by decide +kernel
theorem d_LW_law_570 : decode code 570 = .ok (.iconst 1, 1) := by decide +kernel
theorem d_LW_law_571 : decode code 571 = .ok (.iadd, 1) := by decide +kernel
theorem d_LW_law_572 : decode code 572 = .ok (.iaload, 1) := by decide +kernel
theorem d_LW_law_573 : decode code 573 = .ok (.invokevirtual 71, 3) := by decide +kernel
theorem d_LW_law_576 : decode code 576 = .ok (.if_icmp .eq 494, 3) := by decide +kernel
theorem d_LW_law_579 : decode code 579 = .ok (.iconst 0, 1) := by decide +kernel
theorem d_LW_law_580 : decode code 580 = .ok (.ireturn, 1) := by decide +kernel
theorem d_LW_law_581 : decode code 581 = .ok (.aload_n 1, 1) := by decide +kernel
theorem d_LW_law_582 : decode code 582 = .ok (.aload_n 0, 1) := by decide +kernel
theorem d_LW_law_583 : decode code 583 = .ok (.iload_n 3, 1) := by decide +kernel
theorem d_LW_law_584 : decode code 584 = .ok (.iconst 1, 1) := by decide +kernel
theorem d_LW_law_585 : decode code 585 = .ok (.iadd, 1) := by decide +kernel
theorem d_LW_law_586 : decode code 586 = .ok (.iaload, 1) := by decide +kernel
theorem d_LW_law_587 : decode code 587 = .ok (.aload_n 0, 1) := by decide +kernel
theorem d_LW_law_588 : decode code 588 = .ok (.iload_n 3, 1) := by decide +kernel
theorem d_LW_law_589 : decode code 589 = .ok (.iconst 2, 1) := by decide +kernel
theorem d_LW_law_590 : decode code 590 = .ok (.iadd, 1) := by decide +kernel
theorem d_LW_law_591 : decode code 591 = .ok (.iaload, 1) := by decide +kernel
theorem d_LW_law_592 : decode code 592 = .ok (.invokevirtual 72, 3) := by decide +kernel
theorem d_LW_law_595 : decode code 595 = .ok (.aload_n 2, 1) := by decide +kernel
theorem d_LW_law_596 : decode code 596 = .ok (.aload_n 0, 1) := by decide +kernel
theorem d_LW_law_597 : decode code 597 = .ok (.iload_n 3, 1) := by decide +kernel
theorem d_LW_law_598 : decode code 598 = .ok (.iconst 1, 1) := by decide +kernel
theorem d_LW_law_599 : decode code 599 = .ok (.iadd, 1) := by decide +kernel
theorem d_LW_law_600 : decode code 600 = .ok (.iaload, 1) := by decide +kernel
theorem d_LW_law_601 : decode code 601 = .ok (.aload_n 0, 1) := by decide +kernel
theorem d_LW_law_602 : decode code 602 = .ok (.iload_n 3, 1) := by decide +kernel
theorem d_LW_law_603 : decode code 603 = .ok (.iconst 2, 1) := by decide +kernel
theorem d_LW_law_604 : decode code 604 = .ok (.iadd, 1) := by decide +kernel
theorem d_LW_law_605 : decode code 605 = .ok (.iaload, 1) := by decide +kernel
theorem d_LW_law_606 : decode code 606 = .ok (.invokevirtual 76, 3) := by decide +kernel
theorem d_LW_law_609 : decode code 609 = .ok (.lcmp, 1) := by decide +kernel
theorem d_LW_law_610 : decode code 610 = .ok (.ifCond .eq 460, 3) := by decide +kernel
theorem d_LW_law_613 : decode code 613 = .ok (.iconst 0, 1) := by decide +kernel
theorem d_LW_law_614 : decode code 614 = .ok (.ireturn, 1) := by decide +kernel
theorem d_LW_law_615 : decode code 615 = .ok (.aload_n 1, 1) := by decide +kernel
theorem d_LW_law_616 : decode code 616 = .ok (.invokevirtual 77, 3) := by decide +kernel
theorem d_LW_law_619 : decode code 619 = .ok (.aload_n 2, 1) := by decide +kernel
theorem d_LW_law_620 : decode code 620 = .ok (.invokevirtual 80, 3) := by decide +kernel
theorem d_LW_law_623 : decode code 623 = .ok (.if_icmp .eq 447, 3) := by decide +kernel
theorem d_LW_law_626 : decode code 626 = .ok (.iconst 0, 1) := by decide +kernel
theorem d_LW_law_627 : decode code 627 = .ok (.ireturn, 1) := by decide +kernel
theorem d_LW_law_628 : decode code 628 = .ok (.aload_n 1, 1) := by decide +kernel
theorem d_LW_law_629 : decode code 629 = .ok (.aload_n 0, 1) := by decide +kernel
theorem d_LW_law_630 : decode code 630 = .ok (.iload_n 3, 1) := by decide +kernel
theorem d_LW_law_631 : decode code 631 = .ok (.iconst 1, 1) := by decide +kernel
theorem d_LW_law_632 : decode code 632 = .ok (.iadd, 1) := by decide +kernel
theorem d_LW_law_633 : decode code 633 = .ok (.iaload, 1) := by decide +kernel
theorem d_LW_law_634 : decode code 634 = .ok (.invokevirtual 81, 3) := by decide +kernel
theorem d_LW_law_637 : decode code 637 = .ok (.aload_n 2, 1) := by decide +kernel
theorem d_LW_law_638 : decode code 638 = .ok (.aload_n 0, 1) := by decide +kernel
theorem d_LW_law_639 : decode code 639 = .ok (.iload_n 3, 1) := by decide +kernel
theorem d_LW_law_640 : decode code 640 = .ok (.iconst 1, 1) := by decide +kernel
theorem d_LW_law_641 : decode code 641 = .ok (.iadd, 1) := by decide +kernel
theorem d_LW_law_642 : decode code 642 = .ok (.iaload, 1) := by decide +kernel
theorem d_LW_law_643 : decode code 643 = .ok (.invokevirtual 84, 3) := by decide +kernel
theorem d_LW_law_646 : decode code 646 = .ok (.if_icmp .eq 424, 3) := by decide +kernel
theorem d_LW_law_649 : decode code 649 = .ok (.iconst 0, 1) := by decide +kernel
theorem d_LW_law_650 : decode code 650 = .ok (.ireturn, 1) := by decide +kernel
theorem d_LW_law_651 : decode code 651 = .ok (.aload_n 1, 1) := by decide +kernel
theorem d_LW_law_652 : decode code 652 = .ok (.aload_n 0, 1) := by decide +kernel
theorem d_LW_law_653 : decode code 653 = .ok (.iload_n 3, 1) := by decide +kernel
theorem d_LW_law_654 : decode code 654 = .ok (.iconst 1, 1) := by decide +kernel
theorem d_LW_law_655 : decode code 655 = .ok (.iadd, 1) := by decide +kernel
theorem d_LW_law_656 : decode code 656 = .ok (.iaload, 1) := by decide +kernel
theorem d_LW_law_657 : decode code 657 = .ok (.aload_n 0, 1) := by decide +kernel
theorem d_LW_law_658 : decode code 658 = .ok (.iload_n 3, 1) := by decide +kernel
theorem d_LW_law_659 : decode code 659 = .ok (.iconst 2, 1) := by decide +kernel
theorem d_LW_law_660 : decode code 660 = .ok (.iadd, 1) := by decide +kernel
theorem d_LW_law_661 : decode code 661 = .ok (.iaload, 1) := by decide +kernel
theorem d_LW_law_662 : decode code 662 = .ok (.invokevirtual 85, 3) := by decide +kernel
theorem d_LW_law_665 : decode code 665 = .ok (.aload_n 2, 1) := by decide +kernel
theorem d_LW_law_666 : decode code 666 = .ok (.aload_n 0, 1) := by decide +kernel
theorem d_LW_law_667 : decode code 667 = .ok (.iload_n 3, 1) := by decide +kernel
theorem d_LW_law_668 : decode code 668 = .ok (.iconst 1, 1) := by decide +kernel
theorem d_LW_law_669 : decode code 669 = .ok (.iadd, 1) := by decide +kernel
theorem d_LW_law_670 : decode code 670 = .ok (.iaload, 1) := by decide +kernel
theorem d_LW_law_671 : decode code 671 = .ok (.aload_n 0, 1) := by decide +kernel
theorem d_LW_law_672 : decode code 672 = .ok (.iload_n 3, 1) := by decide +kernel
theorem d_LW_law_673 : decode code 673 = .ok (.iconst 2, 1) := by decide +kernel
theorem d_LW_law_674 : decode code 674 = .ok (.iadd, 1) := by decide +kernel
theorem d_LW_law_675 : decode code 675 = .ok (.iaload, 1) := by decide +kernel
theorem d_LW_law_676 : decode code 676 = .ok (.invokevirtual 88, 3) := by decide +kernel
theorem d_LW_law_679 : decode code 679 = .ok (.if_icmp .eq 391, 3) := by decide +kernel
theorem d_LW_law_682 : decode code 682 = .ok (.iconst 0, 1) := by decide +kernel
theorem d_LW_law_683 : decode code 683 = .ok (.ireturn, 1) := by decide +kernel
theorem d_LW_law_684 : decode code 684 = .ok (.aload_n 1, 1) := by decide +kernel
theorem d_LW_law_685 : decode code 685 = .ok (.aload_n 0, 1) := by decide +kernel
theorem d_LW_law_686 : decode code 686 = .ok (.iload_n 3, 1) := by decide +kernel
theorem d_LW_law_687 : decode code 687 = .ok (.iconst 1, 1) := by decide +kernel
theorem d_LW_law_688 : decode code 688 = .ok (.iadd, 1) := by decide +kernel
theorem d_LW_law_689 : decode code 689 = .ok (.iaload, 1) := by decide +kernel
theorem d_LW_law_690 : decode code 690 = .ok (.invokevirtual 89, 3) := by decide +kernel
theorem d_LW_law_693 : decode code 693 = .ok (.aload_n 2, 1) := by decide +kernel
theorem d_LW_law_694 : decode code 694 = .ok (.aload_n 0, 1) := by decide +kernel
theorem d_LW_law_695 : decode code 695 = .ok (.iload_n 3, 1) := by decide +kernel
theorem d_LW_law_696 : decode code 696 = .ok (.iconst 1, 1) := by decide +kernel
theorem d_LW_law_697 : decode code 697 = .ok (.iadd, 1) := by decide +kernel
theorem d_LW_law_698 : decode code 698 = .ok (.iaload, 1) := by decide +kernel
theorem d_LW_law_699 : decode code 699 = .ok (.invokevirtual 92, 3) := by decide +kernel
theorem d_LW_law_702 : decode code 702 = .ok (.if_icmp .eq 368, 3) := by decide +kernel
theorem d_LW_law_705 : decode code 705 = .ok (.iconst 0, 1) := by decide +kernel
theorem d_LW_law_706 : decode code 706 = .ok (.ireturn, 1) := by decide +kernel
theorem d_LW_law_707 : decode code 707 = .ok (.aload_n 1, 1) := by decide +kernel
theorem d_LW_law_708 : decode code 708 = .ok (.aload_n 0, 1) := by decide +kernel
theorem d_LW_law_709 : decode code 709 = .ok (.iload_n 3, 1) := by decide +kernel
theorem d_LW_law_710 : decode code 710 = .ok (.iconst 1, 1) := by decide +kernel
theorem d_LW_law_711 : decode code 711 = .ok (.iadd, 1) := by decide +kernel
theorem d_LW_law_712 : decode code 712 = .ok (.iaload, 1) := by decide +kernel
theorem d_LW_law_713 : decode code 713 = .ok (.invokevirtual 93, 3) := by decide +kernel
theorem d_LW_law_716 : decode code 716 = .ok (.aload_n 2, 1) := by decide +kernel
theorem d_LW_law_717 : decode code 717 = .ok (.aload_n 0, 1) := by decide +kernel
theorem d_LW_law_718 : decode code 718 = .ok (.iload_n 3, 1) := by decide +kernel
theorem d_LW_law_719 : decode code 719 = .ok (.iconst 1, 1) := by decide +kernel
theorem d_LW_law_720 : decode code 720 = .ok (.iadd, 1) := by decide +kernel
theorem d_LW_law_721 : decode code 721 = .ok (.iaload, 1) := by decide +kernel
theorem d_LW_law_722 : decode code 722 = .ok (.invokevirtual 96, 3) := by decide +kernel
theorem d_LW_law_725 : decode code 725 = .ok (.if_icmp .eq 345, 3) := by decide +kernel
theorem d_LW_law_728 : decode code 728 = .ok (.iconst 0, 1) := by decide +kernel
theorem d_LW_law_729 : decode code 729 = .ok (.ireturn, 1) := by decide +kernel
theorem d_LW_law_730 : decode code 730 = .ok (.aload_n 1, 1) := by decide +kernel
theorem d_LW_law_731 : decode code 731 = .ok (.aload_n 0, 1) := by decide +kernel
theorem d_LW_law_732 : decode code 732 = .ok (.iload_n 3, 1) := by decide +kernel
theorem d_LW_law_733 : decode code 733 = .ok (.iconst 1, 1) := by decide +kernel
theorem d_LW_law_734 : decode code 734 = .ok (.iadd, 1) := by decide +kernel
theorem d_LW_law_735 : decode code 735 = .ok (.iaload, 1) := by decide +kernel
theorem d_LW_law_736 : decode code 736 = .ok (.invokevirtual 97, 3) := by decide +kernel
theorem d_LW_law_739 : decode code 739 = .ok (.aload_n 2, 1) := by decide +kernel
theorem d_LW_law_740 : decode code 740 = .ok (.aload_n 0, 1) := by decide +kernel
theorem d_LW_law_741 : decode code 741 = .ok (.iload_n 3, 1) := by decide +kernel
theorem d_LW_law_742 : decode code 742 = .ok (.iconst 1, 1) := by decide +kernel
theorem d_LW_law_743 : decode code 743 = .ok (.iadd, 1) := by decide +kernel
theorem d_LW_law_744 : decode code 744 = .ok (.iaload, 1) := by decide +kernel
theorem d_LW_law_745 : decode code 745 = .ok (.invokevirtual 100, 3) := by decide +kernel
theorem d_LW_law_748 : decode code 748 = .ok (.if_icmp .eq 322, 3) := by decide +kernel
theorem d_LW_law_751 : decode code 751 = .ok (.iconst 0, 1) := by decide +kernel
theorem d_LW_law_752 : decode code 752 = .ok (.ireturn, 1) := by decide +kernel
theorem d_LW_law_753 : decode code 753 = .ok (.aload_n 1, 1) := by decide +kernel
theorem d_LW_law_754 : decode code 754 = .ok (.aload_n 0, 1) := by decide +kernel
theorem d_LW_law_755 : decode code 755 = .ok (.iload_n 3, 1) := by decide +kernel
theorem d_LW_law_756 : decode code 756 = .ok (.iconst 1, 1) := by decide +kernel
theorem d_LW_law_757 : decode code 757 = .ok (.iadd, 1) := by decide +kernel
theorem d_LW_law_758 : decode code 758 = .ok (.iaload, 1) := by decide +kernel
theorem d_LW_law_759 : decode code 759 = .ok (.aload_n 0, 1) := by decide +kernel
theorem d_LW_law_760 : decode code 760 = .ok (.iload_n 3, 1) := by decide +kernel
theorem d_LW_law_761 : decode code 761 = .ok (.iconst 2, 1) := by decide +kernel
theorem d_LW_law_762 : decode code 762 = .ok (.iadd, 1) := by decide +kernel
theorem d_LW_law_763 : decode code 763 = .ok (.iaload, 1) := by decide +kernel
theorem d_LW_law_764 : decode code 764 = .ok (.aload_n 0, 1) := by decide +kernel
theorem d_LW_law_765 : decode code 765 = .ok (.iload_n 3, 1) := by decide +kernel
theorem d_LW_law_766 : decode code 766 = .ok (.iconst 3, 1) := by decide +kernel
theorem d_LW_law_767 : decode code 767 = .ok (.iadd, 1) := by decide +kernel
theorem d_LW_law_768 : decode code 768 = .ok (.iaload, 1) := by decide +kernel
theorem d_LW_law_769 : decode code 769 = .ok (.invokevirtual 101, 3) := by decide +kernel
theorem d_LW_law_772 : decode code 772 = .ok (.aload_n 2, 1) := by decide +kernel
theorem d_LW_law_773 : decode code 773 = .ok (.aload_n 0, 1) := by decide +kernel
theorem d_LW_law_774 : decode code 774 = .ok (.iload_n 3, 1) := by decide +kernel
theorem d_LW_law_775 : decode code 775 = .ok (.iconst 1, 1) := by decide +kernel
theorem d_LW_law_776 : decode code 776 = .ok (.iadd, 1) := by decide +kernel
theorem d_LW_law_777 : decode code 777 = .ok (.iaload, 1) := by decide +kernel
theorem d_LW_law_778 : decode code 778 = .ok (.aload_n 0, 1) := by decide +kernel
theorem d_LW_law_779 : decode code 779 = .ok (.iload_n 3, 1) := by decide +kernel
theorem d_LW_law_780 : decode code 780 = .ok (.iconst 2, 1) := by decide +kernel
theorem d_LW_law_781 : decode code 781 = .ok (.iadd, 1) := by decide +kernel
theorem d_LW_law_782 : decode code 782 = .ok (.iaload, 1) := by decide +kernel
theorem d_LW_law_783 : decode code 783 = .ok (.aload_n 0, 1) := by decide +kernel
theorem d_LW_law_784 : decode code 784 = .ok (.iload_n 3, 1) := by decide +kernel
theorem d_LW_law_785 : decode code 785 = .ok (.iconst 3, 1) := by decide +kernel
theorem d_LW_law_786 : decode code 786 = .ok (.iadd, 1) := by decide +kernel
theorem d_LW_law_787 : decode code 787 = .ok (.iaload, 1) := by decide +kernel
theorem d_LW_law_788 : decode code 788 = .ok (.invokevirtual 104, 3) := by decide +kernel
theorem d_LW_law_791 : decode code 791 = .ok (.if_icmp .eq 279, 3) := by decide +kernel
theorem d_LW_law_794 : decode code 794 = .ok (.iconst 0, 1) := by decide +kernel
theorem d_LW_law_795 : decode code 795 = .ok (.ireturn, 1) := by decide +kernel
theorem d_LW_law_796 : decode code 796 = .ok (.aload_n 1, 1) := by decide +kernel
theorem d_LW_law_797 : decode code 797 = .ok (.aload_n 0, 1) := by decide +kernel
theorem d_LW_law_798 : decode code 798 = .ok (.iload_n 3, 1) := by decide +kernel
theorem d_LW_law_799 : decode code 799 = .ok (.iconst 1, 1) := by decide +kernel
theorem d_LW_law_800 : decode code 800 = .ok (.iadd, 1) := by decide +kernel
theorem d_LW_law_801 : decode code 801 = .ok (.iaload, 1) := by decide +kernel
theorem d_LW_law_802 : decode code 802 = .ok (.invokevirtual 105, 3) := by decide +kernel
theorem d_LW_law_805 : decode code 805 = .ok (.aload_n 2, 1) := by decide +kernel
theorem d_LW_law_806 : decode code 806 = .ok (.aload_n 0, 1) := by decide +kernel
theorem d_LW_law_807 : decode code 807 = .ok (.iload_n 3, 1) := by decide +kernel
theorem d_LW_law_808 : decode code 808 = .ok (.iconst 1, 1) := by decide +kernel
theorem d_LW_law_809 : decode code 809 = .ok (.iadd, 1) := by decide +kernel
theorem d_LW_law_810 : decode code 810 = .ok (.iaload, 1) := by decide +kernel
theorem d_LW_law_811 : decode code 811 = .ok (.invokevirtual 108, 3) := by decide +kernel
theorem d_LW_law_814 : decode code 814 = .ok (.if_icmp .eq 256, 3) := by decide +kernel
theorem d_LW_law_817 : decode code 817 = .ok (.iconst 0, 1) := by decide +kernel
theorem d_LW_law_818 : decode code 818 = .ok (.ireturn, 1) := by decide +kernel
theorem d_LW_law_819 : decode code 819 = .ok (.aload_n 1, 1) := by decide +kernel
theorem d_LW_law_820 : decode code 820 = .ok (.aload_n 0, 1) := by decide +kernel
theorem d_LW_law_821 : decode code 821 = .ok (.iload_n 3, 1) := by decide +kernel
theorem d_LW_law_822 : decode code 822 = .ok (.iconst 1, 1) := by decide +kernel
theorem d_LW_law_823 : decode code 823 = .ok (.iadd, 1) := by decide +kernel
theorem d_LW_law_824 : decode code 824 = .ok (.iaload, 1) := by decide +kernel
theorem d_LW_law_825 : decode code 825 = .ok (.invokevirtual 109, 3) := by decide +kernel
theorem d_LW_law_828 : decode code 828 = .ok (.aload_n 2, 1) := by decide +kernel
theorem d_LW_law_829 : decode code 829 = .ok (.aload_n 0, 1) := by decide +kernel
theorem d_LW_law_830 : decode code 830 = .ok (.iload_n 3, 1) := by decide +kernel
theorem d_LW_law_831 : decode code 831 = .ok (.iconst 1, 1) := by decide +kernel
theorem d_LW_law_832 : decode code 832 = .ok (.iadd, 1) := by decide +kernel
theorem d_LW_law_833 : decode code 833 = .ok (.iaload, 1) := by decide +kernel
theorem d_LW_law_834 : decode code 834 = .ok (.invokevirtual 113, 3) := by decide +kernel
theorem d_LW_law_837 : decode code 837 = .ok (.lcmp, 1) := by decide +kernel
theorem d_LW_law_838 : decode code 838 = .ok (.ifCond .eq 232, 3) := by decide +kernel
theorem d_LW_law_841 : decode code 841 = .ok (.iconst 0, 1) := by decide +kernel
theorem d_LW_law_842 : decode code 842 = .ok (.ireturn, 1) := by decide +kernel
theorem d_LW_law_843 : decode code 843 = .ok (.aload_n 1, 1) := by decide +kernel
theorem d_LW_law_844 : decode code 844 = .ok (.aload_n 0, 1) := by decide +kernel
theorem d_LW_law_845 : decode code 845 = .ok (.iload_n 3, 1) := by decide +kernel
theorem d_LW_law_846 : decode code 846 = .ok (.iconst 1, 1) := by decide +kernel
theorem d_LW_law_847 : decode code 847 = .ok (.iadd, 1) := by decide +kernel
theorem d_LW_law_848 : decode code 848 = .ok (.iaload, 1) := by decide +kernel
theorem d_LW_law_849 : decode code 849 = .ok (.invokevirtual 114, 3) := by decide +kernel
theorem d_LW_law_852 : decode code 852 = .ok (.aload_n 2, 1) := by decide +kernel
theorem d_LW_law_853 : decode code 853 = .ok (.aload_n 0, 1) := by decide +kernel
theorem d_LW_law_854 : decode code 854 = .ok (.iload_n 3, 1) := by decide +kernel
theorem d_LW_law_855 : decode code 855 = .ok (.iconst 1, 1) := by decide +kernel
theorem d_LW_law_856 : decode code 856 = .ok (.iadd, 1) := by decide +kernel
theorem d_LW_law_857 : decode code 857 = .ok (.iaload, 1) := by decide +kernel
theorem d_LW_law_858 : decode code 858 = .ok (.invokevirtual 117, 3) := by decide +kernel
theorem d_LW_law_861 : decode code 861 = .ok (.if_icmp .eq 209, 3) := by decide +kernel
theorem d_LW_law_864 : decode code 864 = .ok (.iconst 0, 1) := by decide +kernel
theorem d_LW_law_865 : decode code 865 = .ok (.ireturn, 1) := by decide +kernel
theorem d_LW_law_866 : decode code 866 = .ok (.aload_n 1, 1) := by decide +kernel
theorem d_LW_law_867 : decode code 867 = .ok (.aload_n 0, 1) := by decide +kernel
theorem d_LW_law_868 : decode code 868 = .ok (.iload_n 3, 1) := by decide +kernel
theorem d_LW_law_869 : decode code 869 = .ok (.iconst 1, 1) := by decide +kernel
theorem d_LW_law_870 : decode code 870 = .ok (.iadd, 1) := by decide +kernel
theorem d_LW_law_871 : decode code 871 = .ok (.iaload, 1) := by decide +kernel
theorem d_LW_law_872 : decode code 872 = .ok (.aload_n 0, 1) := by decide +kernel
theorem d_LW_law_873 : decode code 873 = .ok (.iload_n 3, 1) := by decide +kernel
theorem d_LW_law_874 : decode code 874 = .ok (.iconst 2, 1) := by decide +kernel
theorem d_LW_law_875 : decode code 875 = .ok (.iadd, 1) := by decide +kernel
theorem d_LW_law_876 : decode code 876 = .ok (.iaload, 1) := by decide +kernel
theorem d_LW_law_877 : decode code 877 = .ok (.invokevirtual 118, 3) := by decide +kernel
theorem d_LW_law_880 : decode code 880 = .ok (.aload_n 2, 1) := by decide +kernel
theorem d_LW_law_881 : decode code 881 = .ok (.aload_n 0, 1) := by decide +kernel
theorem d_LW_law_882 : decode code 882 = .ok (.iload_n 3, 1) := by decide +kernel
theorem d_LW_law_883 : decode code 883 = .ok (.iconst 1, 1) := by decide +kernel
theorem d_LW_law_884 : decode code 884 = .ok (.iadd, 1) := by decide +kernel
theorem d_LW_law_885 : decode code 885 = .ok (.iaload, 1) := by decide +kernel
theorem d_LW_law_886 : decode code 886 = .ok (.aload_n 0, 1) := by decide +kernel
theorem d_LW_law_887 : decode code 887 = .ok (.iload_n 3, 1) := by decide +kernel
theorem d_LW_law_888 : decode code 888 = .ok (.iconst 2, 1) := by decide +kernel
theorem d_LW_law_889 : decode code 889 = .ok (.iadd, 1) := by decide +kernel
theorem d_LW_law_890 : decode code 890 = .ok (.iaload, 1) := by decide +kernel
theorem d_LW_law_891 : decode code 891 = .ok (.invokevirtual 121, 3) := by decide +kernel
theorem d_LW_law_894 : decode code 894 = .ok (.if_icmp .eq 176, 3) := by decide +kernel
theorem d_LW_law_897 : decode code 897 = .ok (.iconst 0, 1) := by decide +kernel
theorem d_LW_law_898 : decode code 898 = .ok (.ireturn, 1) := by decide +kernel
theorem d_LW_law_899 : decode code 899 = .ok (.aload_n 1, 1) := by decide +kernel
theorem d_LW_law_900 : decode code 900 = .ok (.invokevirtual 122, 3) := by decide +kernel
theorem d_LW_law_903 : decode code 903 = .ok (.aload_n 2, 1) := by decide +kernel
theorem d_LW_law_904 : decode code 904 = .ok (.invokevirtual 125, 3) := by decide +kernel
theorem d_LW_law_907 : decode code 907 = .ok (.if_icmp .eq 163, 3) := by decide +kernel
theorem d_LW_law_910 : decode code 910 = .ok (.iconst 0, 1) := by decide +kernel
theorem d_LW_law_911 : decode code 911 = .ok (.ireturn, 1) := by decide +kernel
theorem d_LW_law_912 : decode code 912 = .ok (.aload_n 1, 1) := by decide +kernel
theorem d_LW_law_913 : decode code 913 = .ok (.aload_n 0, 1) := by decide +kernel
theorem d_LW_law_914 : decode code 914 = .ok (.iload_n 3, 1) := by decide +kernel
theorem d_LW_law_915 : decode code 915 = .ok (.iconst 1, 1) := by decide +kernel
theorem d_LW_law_916 : decode code 916 = .ok (.iadd, 1) := by decide +kernel
theorem d_LW_law_917 : decode code 917 = .ok (.iaload, 1) := by decide +kernel
theorem d_LW_law_918 : decode code 918 = .ok (.invokevirtual 126, 3) := by decide +kernel
theorem d_LW_law_921 : decode code 921 = .ok (.aload_n 2, 1) := by decide +kernel
theorem d_LW_law_922 : decode code 922 = .ok (.aload_n 0, 1) := by decide +kernel
theorem d_LW_law_923 : decode code 923 = .ok (.iload_n 3, 1) := by decide +kernel
theorem d_LW_law_924 : decode code 924 = .ok (.iconst 1, 1) := by decide +kernel
theorem d_LW_law_925 : decode code 925 = .ok (.iadd, 1) := by decide +kernel
theorem d_LW_law_926 : decode code 926 = .ok (.iaload, 1) := by decide +kernel
theorem d_LW_law_927 : decode code 927 = .ok (.invokevirtual 129, 3) := by decide +kernel
theorem d_LW_law_930 : decode code 930 = .ok (.if_icmp .eq 140, 3) := by decide +kernel
theorem d_LW_law_933 : decode code 933 = .ok (.iconst 0, 1) := by decide +kernel
theorem d_LW_law_934 : decode code 934 = .ok (.ireturn, 1) := by decide +kernel
theorem d_LW_law_935 : decode code 935 = .ok (.aload_n 1, 1) := by decide +kernel
theorem d_LW_law_936 : decode code 936 = .ok (.aload_n 0, 1) := by decide +kernel
theorem d_LW_law_937 : decode code 937 = .ok (.iload_n 3, 1) := by decide +kernel
theorem d_LW_law_938 : decode code 938 = .ok (.iconst 1, 1) := by decide +kernel
theorem d_LW_law_939 : decode code 939 = .ok (.iadd, 1) := by decide +kernel
theorem d_LW_law_940 : decode code 940 = .ok (.iaload, 1) := by decide +kernel
theorem d_LW_law_941 : decode code 941 = .ok (.invokevirtual 130, 3) := by decide +kernel
theorem d_LW_law_944 : decode code 944 = .ok (.aload_n 2, 1) := by decide +kernel
theorem d_LW_law_945 : decode code 945 = .ok (.aload_n 0, 1) := by decide +kernel
theorem d_LW_law_946 : decode code 946 = .ok (.iload_n 3, 1) := by decide +kernel
theorem d_LW_law_947 : decode code 947 = .ok (.iconst 1, 1) := by decide +kernel
theorem d_LW_law_948 : decode code 948 = .ok (.iadd, 1) := by decide +kernel
theorem d_LW_law_949 : decode code 949 = .ok (.iaload, 1) := by decide +kernel
theorem d_LW_law_950 : decode code 950 = .ok (.invokevirtual 133, 3) := by decide +kernel
theorem d_LW_law_953 : decode code 953 = .ok (.if_icmp .eq 117, 3) := by decide +kernel
theorem d_LW_law_956 : decode code 956 = .ok (.iconst 0, 1) := by decide +kernel
theorem d_LW_law_957 : decode code 957 = .ok (.ireturn, 1) := by decide +kernel
theorem d_LW_law_958 : decode code 958 = .ok (.aload_n 1, 1) := by decide +kernel
theorem d_LW_law_959 : decode code 959 = .ok (.aload_n 0, 1) := by decide +kernel
theorem d_LW_law_960 : decode code 960 = .ok (.iload_n 3, 1) := by decide +kernel
theorem d_LW_law_961 : decode code 961 = .ok (.iconst 1, 1) := by decide +kernel
theorem d_LW_law_962 : decode code 962 = .ok (.iadd, 1) := by decide +kernel
theorem d_LW_law_963 : decode code 963 = .ok (.iaload, 1) := by decide +kernel
theorem d_LW_law_964 : decode code 964 = .ok (.aload_n 0, 1) := by decide +kernel
theorem d_LW_law_965 : decode code 965 = .ok (.iload_n 3, 1) := by decide +kernel
theorem d_LW_law_966 : decode code 966 = .ok (.iconst 2, 1) := by decide +kernel
theorem d_LW_law_967 : decode code 967 = .ok (.iadd, 1) := by decide +kernel
theorem d_LW_law_968 : decode code 968 = .ok (.iaload, 1) := by decide +kernel
theorem d_LW_law_969 : decode code 969 = .ok (.aload_n 0, 1) := by decide +kernel
theorem d_LW_law_970 : decode code 970 = .ok (.iload_n 3, 1) := by decide +kernel
theorem d_LW_law_971 : decode code 971 = .ok (.iconst 3, 1) := by decide +kernel
theorem d_LW_law_972 : decode code 972 = .ok (.iadd, 1) := by decide +kernel
theorem d_LW_law_973 : decode code 973 = .ok (.iaload, 1) := by decide +kernel
theorem d_LW_law_974 : decode code 974 = .ok (.invokevirtual 134, 3) := by decide +kernel
theorem d_LW_law_977 : decode code 977 = .ok (.aload_n 2, 1) := by decide +kernel
theorem d_LW_law_978 : decode code 978 = .ok (.aload_n 0, 1) := by decide +kernel
theorem d_LW_law_979 : decode code 979 = .ok (.iload_n 3, 1) := by decide +kernel
theorem d_LW_law_980 : decode code 980 = .ok (.iconst 1, 1) := by decide +kernel
theorem d_LW_law_981 : decode code 981 = .ok (.iadd, 1) := by decide +kernel
theorem d_LW_law_982 : decode code 982 = .ok (.iaload, 1) := by decide +kernel
theorem d_LW_law_983 : decode code 983 = .ok (.aload_n 0, 1) := by decide +kernel
theorem d_LW_law_984 : decode code 984 = .ok (.iload_n 3, 1) := by decide +kernel
theorem d_LW_law_985 : decode code 985 = .ok (.iconst 2, 1) := by decide +kernel
theorem d_LW_law_986 : decode code 986 = .ok (.iadd, 1) := by decide +kernel
theorem d_LW_law_987 : decode code 987 = .ok (.iaload, 1) := by decide +kernel
theorem d_LW_law_988 : decode code 988 = .ok (.aload_n 0, 1) := by decide +kernel
theorem d_LW_law_989 : decode code 989 = .ok (.iload_n 3, 1) := by decide +kernel
theorem d_LW_law_990 : decode code 990 = .ok (.iconst 3, 1) := by decide +kernel
theorem d_LW_law_991 : decode code 991 = .ok (.iadd, 1) := by decide +kernel
theorem d_LW_law_992 : decode code 992 = .ok (.iaload, 1) := by decide +kernel
theorem d_LW_law_993 : decode code 993 = .ok (.invokevirtual 137, 3) := by decide +kernel
theorem d_LW_law_996 : decode code 996 = .ok (.if_icmp .eq 74, 3) := by decide +kernel
theorem d_LW_law_999 : decode code 999 = .ok (.iconst 0, 1) := by decide +kernel
theorem d_LW_law_1000 : decode code 1000 = .ok (.ireturn, 1) := by decide +kernel
theorem d_LW_law_1001 : decode code 1001 = .ok (.aload_n 1, 1) := by decide +kernel
theorem d_LW_law_1002 : decode code 1002 = .ok (.aload_n 0, 1) := by decide +kernel
theorem d_LW_law_1003 : decode code 1003 = .ok (.iload_n 3, 1) := by decide +kernel
theorem d_LW_law_1004 : decode code 1004 = .ok (.iconst 1, 1) := by decide +kernel
theorem d_LW_law_1005 : decode code 1005 = .ok (.iadd, 1) := by decide +kernel
theorem d_LW_law_1006 : decode code 1006 = .ok (.iaload, 1) := by decide +kernel
theorem d_LW_law_1007 : decode code 1007 = .ok (.invokevirtual 138, 3) := by decide +kernel
theorem d_LW_law_1010 : decode code 1010 = .ok (.aload_n 2, 1) := by decide +kernel
theorem d_LW_law_1011 : decode code 1011 = .ok (.aload_n 0, 1) := by decide +kernel
theorem d_LW_law_1012 : decode code 1012 = .ok (.iload_n 3, 1) := by decide +kernel
theorem d_LW_law_1013 : decode code 1013 = .ok (.iconst 1, 1) := by decide +kernel
theorem d_LW_law_1014 : decode code 1014 = .ok (.iadd, 1) := by decide +kernel
theorem d_LW_law_1015 : decode code 1015 = .ok (.iaload, 1) := by decide +kernel
theorem d_LW_law_1016 : decode code 1016 = .ok (.invokevirtual 141, 3) := by decide +kernel
theorem d_LW_law_1019 : decode code 1019 = .ok (.if_icmp .eq 51, 3) := by decide +kernel
theorem d_LW_law_1022 : decode code 1022 = .ok (.iconst 0, 1) := by decide +kernel
theorem d_LW_law_1023 : decode code 1023 = .ok (.ireturn, 1) := by decide +kernel
theorem d_LW_law_1024 : decode code 1024 = .ok (.aload_n 1, 1) := by decide +kernel
theorem d_LW_law_1025 : decode code 1025 = .ok (.aload_n 0, 1) := by decide +kernel
theorem d_LW_law_1026 : decode code 1026 = .ok (.iload_n 3, 1) := by decide +kernel
theorem d_LW_law_1027 : decode code 1027 = .ok (.iconst 1, 1) := by decide +kernel
theorem d_LW_law_1028 : decode code 1028 = .ok (.iadd, 1) := by decide +kernel
theorem d_LW_law_1029 : decode code 1029 = .ok (.iaload, 1) := by decide +kernel
theorem d_LW_law_1030 : decode code 1030 = .ok (.invokevirtual 142, 3) := by decide +kernel
theorem d_LW_law_1033 : decode code 1033 = .ok (.aload_n 2, 1) := by decide +kernel
theorem d_LW_law_1034 : decode code 1034 = .ok (.aload_n 0, 1) := by decide +kernel
theorem d_LW_law_1035 : decode code 1035 = .ok (.iload_n 3, 1) := by decide +kernel
theorem d_LW_law_1036 : decode code 1036 = .ok (.iconst 1, 1) := by decide +kernel
theorem d_LW_law_1037 : decode code 1037 = .ok (.iadd, 1) := by decide +kernel
theorem d_LW_law_1038 : decode code 1038 = .ok (.iaload, 1) := by decide +kernel
theorem d_LW_law_1039 : decode code 1039 = .ok (.invokevirtual 145, 3) := by decide +kernel
theorem d_LW_law_1042 : decode code 1042 = .ok (.if_icmp .eq 28, 3) := by decide +kernel
theorem d_LW_law_1045 : decode code 1045 = .ok (.iconst 0, 1) := by decide +kernel
theorem d_LW_law_1046 : decode code 1046 = .ok (.ireturn, 1) := by decide +kernel
theorem d_LW_law_1047 : decode code 1047 = .ok (.aload_n 1, 1) := by decide +kernel
theorem d_LW_law_1048 : decode code 1048 = .ok (.aload_n 0, 1) := by decide +kernel
theorem d_LW_law_1049 : decode code 1049 = .ok (.iload_n 3, 1) := by decide +kernel
theorem d_LW_law_1050 : decode code 1050 = .ok (.iconst 1, 1) := by decide +kernel
theorem d_LW_law_1051 : decode code 1051 = .ok (.iadd, 1) := by decide +kernel
theorem d_LW_law_1052 : decode code 1052 = .ok (.iaload, 1) := by decide +kernel
theorem d_LW_law_1053 : decode code 1053 = .ok (.invokevirtual 146, 3) := by decide +kernel
theorem d_LW_law_1056 : decode code 1056 = .ok (.aload_n 2, 1) := by decide +kernel
theorem d_LW_law_1057 : decode code 1057 = .ok (.aload_n 0, 1) := by decide +kernel
theorem d_LW_law_1058 : decode code 1058 = .ok (.iload_n 3, 1) := by decide +kernel
theorem d_LW_law_1059 : decode code 1059 = .ok (.iconst 1, 1) := by decide +kernel
theorem d_LW_law_1060 : decode code 1060 = .ok (.iadd, 1) := by decide +kernel
theorem d_LW_law_1061 : decode code 1061 = .ok (.iaload, 1) := by decide +kernel
theorem d_LW_law_1062 : decode code 1062 = .ok (.invokevirtual 149, 3) := by decide +kernel
theorem d_LW_law_1065 : decode code 1065 = .ok (.if_icmp .eq 5, 3) := by decide +kernel
theorem d_LW_law_1068 : decode code 1068 = .ok (.iconst 0, 1) := by decide +kernel
theorem d_LW_law_1069 : decode code 1069 = .ok (.ireturn, 1) := by decide +kernel
theorem d_LW_law_1070 : decode code 1070 = .ok (.iinc 3 6, 3) := by decide +kernel
theorem d_LW_law_1073 : decode code 1073 = .ok (.goto (-1055), 3) := by decide +kernel
theorem d_LW_law_1076 : decode code 1076 = .ok (.iconst 1, 1) := by decide +kernel
theorem d_LW_law_1077 : decode code 1077 = .ok (.ireturn, 1) := by decide +kernel
def S_LW_law_18 (g : Gx) (σ : St) (x3 : Int32) : Prop := Ax g m_LW_law 600000 7302250 lw_Z SH σ 199 156995 18 [(0, .ref (gXb g)), (1, .ref (gB g + 0)), (2, .ref (gB g + 151)), (3, .int x3)] []
theorem sg_LW_law_18 {g : Gx} {σ : St} {x3 : Int32}
    (h : (((Int32.ofNat (gXL g)) - (6 : Int32)) < x3 → True) ∧ (¬ ((Int32.ofNat (gXL g)) - (6 : Int32)) < x3 → vp_in x3 (gXL g) ∧ (((((gXs g (x3).toNatClampNeg) &&& (31 : Int32)) = (0 : Int32) → vp_in (x3 + (1 : Int32)) (gXL g) ∧ (vp_in (x3 + (2 : Int32)) (gXL g) ∧ (vp_in (x3 + (3 : Int32)) (gXL g) ∧ (vp_in (x3 + (4 : Int32)) (gXL g) ∧ (vp_in (x3 + (5 : Int32)) (gXL g) ∧ (K_BB_feed g (gXs g ((x3 + (1 : Int32))).toNatClampNeg) (gXs g ((x3 + (2 : Int32))).toNatClampNeg) (gXs g ((x3 + (3 : Int32))).toNatClampNeg) (gXs g ((x3 + (4 : Int32))).toNatClampNeg) (gXs g ((x3 + (5 : Int32))).toNatClampNeg) σ (fun (r2 : Int32) (s1 : St) => vp_in (x3 + (1 : Int32)) (gXL g) ∧ (vp_in (x3 + (2 : Int32)) (gXL g) ∧ (vp_in (x3 + (3 : Int32)) (gXL g) ∧ (vp_in (x3 + (4 : Int32)) (gXL g) ∧ (vp_in (x3 + (5 : Int32)) (gXL g) ∧ (K_BM_feed g (gXs g ((x3 + (1 : Int32))).toNatClampNeg) (gXs g ((x3 + (2 : Int32))).toNatClampNeg) (gXs g ((x3 + (3 : Int32))).toNatClampNeg) (gXs g ((x3 + (4 : Int32))).toNatClampNeg) (gXs g ((x3 + (5 : Int32))).toNatClampNeg) s1 (fun (r4 : Int32) (s3 : St) => (r2 = r4 → ∀ u5 : Int32, u5 = x3 + (6 : Int32) → S_LW_law_18 g s3 u5) ∧ (¬ r2 = r4 → False)))))))))))))) ∧ (((gXs g (x3).toNatClampNeg) &&& (31 : Int32)) = (1 : Int32) → vp_in (x3 + (1 : Int32)) (gXL g) ∧ (K_BB_end g (gXs g ((x3 + (1 : Int32))).toNatClampNeg) σ (fun (r7 : Int32) (s6 : St) => vp_in (x3 + (1 : Int32)) (gXL g) ∧ (K_BM_end g (gXs g ((x3 + (1 : Int32))).toNatClampNeg) s6 (fun (r9 : Int32) (s8 : St) => (r7 = r9 → ∀ u10 : Int32, u10 = x3 + (6 : Int32) → S_LW_law_18 g s8 u10) ∧ (¬ r7 = r9 → False)))))) ∧ (((gXs g (x3).toNatClampNeg) &&& (31 : Int32)) = (2 : Int32) → K_BB_box g σ (fun (r12 : Int32) (s11 : St) => K_BM_box g s11 (fun (r14 : Int32) (s13 : St) => (r12 = r14 → ∀ u15 : Int32, u15 = x3 + (6 : Int32) → S_LW_law_18 g s13 u15) ∧ (¬ r12 = r14 → False)))) ∧ (((gXs g (x3).toNatClampNeg) &&& (31 : Int32)) = (3 : Int32) → K_BB_rule g σ (fun (r17 : Int32) (s16 : St) => K_BM_rule g s16 (fun (r19 : Int32) (s18 : St) => (r17 = r19 → ∀ u20 : Int32, u20 = x3 + (6 : Int32) → S_LW_law_18 g s18 u20) ∧ (¬ r17 = r19 → False)))) ∧ (((gXs g (x3).toNatClampNeg) &&& (31 : Int32)) = (4 : Int32) → vp_in (x3 + (1 : Int32)) (gXL g) ∧ (K_BB_force g (gXs g ((x3 + (1 : Int32))).toNatClampNeg) σ (fun (r22 : Int32) (s21 : St) => vp_in (x3 + (1 : Int32)) (gXL g) ∧ (K_BM_force g (gXs g ((x3 + (1 : Int32))).toNatClampNeg) s21 (fun (r24 : Int32) (s23 : St) => (r22 = r24 → ∀ u25 : Int32, u25 = x3 + (6 : Int32) → S_LW_law_18 g s23 u25) ∧ (¬ r22 = r24 → False)))))) ∧ (((gXs g (x3).toNatClampNeg) &&& (31 : Int32)) = (5 : Int32) → vp_in (x3 + (1 : Int32)) (gXL g) ∧ (vp_in (x3 + (2 : Int32)) (gXL g) ∧ (vp_in (x3 + (3 : Int32)) (gXL g) ∧ (K_BB_cell g (gXs g ((x3 + (1 : Int32))).toNatClampNeg) (gXs g ((x3 + (2 : Int32))).toNatClampNeg) (gXs g ((x3 + (3 : Int32))).toNatClampNeg) σ (fun (r27 : Int32) (s26 : St) => vp_in (x3 + (1 : Int32)) (gXL g) ∧ (vp_in (x3 + (2 : Int32)) (gXL g) ∧ (vp_in (x3 + (3 : Int32)) (gXL g) ∧ (K_BM_cell g (gXs g ((x3 + (1 : Int32))).toNatClampNeg) (gXs g ((x3 + (2 : Int32))).toNatClampNeg) (gXs g ((x3 + (3 : Int32))).toNatClampNeg) s26 (fun (r29 : Int32) (s28 : St) => (r27 = r29 → ∀ u30 : Int32, u30 = x3 + (6 : Int32) → S_LW_law_18 g s28 u30) ∧ (¬ r27 = r29 → False)))))))))) ∧ (((gXs g (x3).toNatClampNeg) &&& (31 : Int32)) = (6 : Int32) → vp_in (x3 + (1 : Int32)) (gXL g) ∧ (vp_in (x3 + (2 : Int32)) (gXL g) ∧ (K_BB_ball g (gXs g ((x3 + (1 : Int32))).toNatClampNeg) (gXs g ((x3 + (2 : Int32))).toNatClampNeg) σ (fun (r32 : Int32) (s31 : St) => vp_in (x3 + (1 : Int32)) (gXL g) ∧ (vp_in (x3 + (2 : Int32)) (gXL g) ∧ (K_BM_ball g (gXs g ((x3 + (1 : Int32))).toNatClampNeg) (gXs g ((x3 + (2 : Int32))).toNatClampNeg) s31 (fun (r34 : Int32) (s33 : St) => (r32 = r34 → ∀ u35 : Int32, u35 = x3 + (6 : Int32) → S_LW_law_18 g s33 u35) ∧ (¬ r32 = r34 → False)))))))) ∧ (((gXs g (x3).toNatClampNeg) &&& (31 : Int32)) = (7 : Int32) → vp_in (x3 + (1 : Int32)) (gXL g) ∧ (vp_in (x3 + (2 : Int32)) (gXL g) ∧ (vp_in (x3 + (3 : Int32)) (gXL g) ∧ (K_BB_put g (gXs g ((x3 + (1 : Int32))).toNatClampNeg) (gXs g ((x3 + (2 : Int32))).toNatClampNeg) (gXs g ((x3 + (3 : Int32))).toNatClampNeg) σ (fun (r37 : Int32) (s36 : St) => vp_in (x3 + (1 : Int32)) (gXL g) ∧ (vp_in (x3 + (2 : Int32)) (gXL g) ∧ (vp_in (x3 + (3 : Int32)) (gXL g) ∧ (K_BM_put g (gXs g ((x3 + (1 : Int32))).toNatClampNeg) (gXs g ((x3 + (2 : Int32))).toNatClampNeg) (gXs g ((x3 + (3 : Int32))).toNatClampNeg) s36 (fun (r39 : Int32) (s38 : St) => (r37 = r39 → ∀ u40 : Int32, u40 = x3 + (6 : Int32) → S_LW_law_18 g s38 u40) ∧ (¬ r37 = r39 → False)))))))))) ∧ (((gXs g (x3).toNatClampNeg) &&& (31 : Int32)) = (8 : Int32) → vp_in (x3 + (1 : Int32)) (gXL g) ∧ (vp_in (x3 + (2 : Int32)) (gXL g) ∧ (vp_in (x3 + (3 : Int32)) (gXL g) ∧ (((gXs g ((x3 + (3 : Int32))).toNatClampNeg) = 0 → K_BB_wall g (gXs g ((x3 + (1 : Int32))).toNatClampNeg) (gXs g ((x3 + (2 : Int32))).toNatClampNeg) (0 : Int32) σ (fun (r42 : Int32) (s41 : St) => vp_in (x3 + (1 : Int32)) (gXL g) ∧ (vp_in (x3 + (2 : Int32)) (gXL g) ∧ (vp_in (x3 + (3 : Int32)) (gXL g) ∧ (((gXs g ((x3 + (3 : Int32))).toNatClampNeg) = 0 → K_BM_wall g (gXs g ((x3 + (1 : Int32))).toNatClampNeg) (gXs g ((x3 + (2 : Int32))).toNatClampNeg) (0 : Int32) s41 (fun (r44 : Int32) (s43 : St) => (r42 = r44 → ∀ u45 : Int32, u45 = x3 + (6 : Int32) → S_LW_law_18 g s43 u45) ∧ (¬ r42 = r44 → False))) ∧ (¬ (gXs g ((x3 + (3 : Int32))).toNatClampNeg) = 0 → K_BM_wall g (gXs g ((x3 + (1 : Int32))).toNatClampNeg) (gXs g ((x3 + (2 : Int32))).toNatClampNeg) (1 : Int32) s41 (fun (r47 : Int32) (s46 : St) => (r42 = r47 → ∀ u48 : Int32, u48 = x3 + (6 : Int32) → S_LW_law_18 g s46 u48) ∧ (¬ r42 = r47 → False)))))))) ∧ (¬ (gXs g ((x3 + (3 : Int32))).toNatClampNeg) = 0 → K_BB_wall g (gXs g ((x3 + (1 : Int32))).toNatClampNeg) (gXs g ((x3 + (2 : Int32))).toNatClampNeg) (1 : Int32) σ (fun (r50 : Int32) (s49 : St) => vp_in (x3 + (1 : Int32)) (gXL g) ∧ (vp_in (x3 + (2 : Int32)) (gXL g) ∧ (vp_in (x3 + (3 : Int32)) (gXL g) ∧ (((gXs g ((x3 + (3 : Int32))).toNatClampNeg) = 0 → K_BM_wall g (gXs g ((x3 + (1 : Int32))).toNatClampNeg) (gXs g ((x3 + (2 : Int32))).toNatClampNeg) (0 : Int32) s49 (fun (r52 : Int32) (s51 : St) => (r50 = r52 → ∀ u53 : Int32, u53 = x3 + (6 : Int32) → S_LW_law_18 g s51 u53) ∧ (¬ r50 = r52 → False))) ∧ (¬ (gXs g ((x3 + (3 : Int32))).toNatClampNeg) = 0 → K_BM_wall g (gXs g ((x3 + (1 : Int32))).toNatClampNeg) (gXs g ((x3 + (2 : Int32))).toNatClampNeg) (1 : Int32) s49 (fun (r55 : Int32) (s54 : St) => (r50 = r55 → ∀ u56 : Int32, u56 = x3 + (6 : Int32) → S_LW_law_18 g s54 u56) ∧ (¬ r50 = r55 → False)))))))))))) ∧ (((gXs g (x3).toNatClampNeg) &&& (31 : Int32)) = (9 : Int32) → vp_in (x3 + (1 : Int32)) (gXL g) ∧ (K_BB_tip g (gXs g ((x3 + (1 : Int32))).toNatClampNeg) σ (fun (r58 : Int32) (s57 : St) => vp_in (x3 + (1 : Int32)) (gXL g) ∧ (K_BM_tip g (gXs g ((x3 + (1 : Int32))).toNatClampNeg) s57 (fun (r60 : Int32) (s59 : St) => (r58 = r60 → ∀ u61 : Int32, u61 = x3 + (6 : Int32) → S_LW_law_18 g s59 u61) ∧ (¬ r58 = r60 → False)))))) ∧ (((gXs g (x3).toNatClampNeg) &&& (31 : Int32)) = (10 : Int32) → vp_in (x3 + (1 : Int32)) (gXL g) ∧ (K_BB_may g (gXs g ((x3 + (1 : Int32))).toNatClampNeg) σ (fun (r63 : Int32) (s62 : St) => vp_in (x3 + (1 : Int32)) (gXL g) ∧ (K_BM_may g (gXs g ((x3 + (1 : Int32))).toNatClampNeg) s62 (fun (r65 : Int32) (s64 : St) => (r63 = r65 → ∀ u66 : Int32, u66 = x3 + (6 : Int32) → S_LW_law_18 g s64 u66) ∧ (¬ r63 = r65 → False)))))) ∧ (((gXs g (x3).toNatClampNeg) &&& (31 : Int32)) = (11 : Int32) → vp_in (x3 + (1 : Int32)) (gXL g) ∧ (K_BB_press g (gXs g ((x3 + (1 : Int32))).toNatClampNeg) σ (fun (r68 : Int32) (s67 : St) => vp_in (x3 + (1 : Int32)) (gXL g) ∧ (K_BM_press g (gXs g ((x3 + (1 : Int32))).toNatClampNeg) s67 (fun (r70 : Int32) (s69 : St) => (r68 = r70 → ∀ u71 : Int32, u71 = x3 + (6 : Int32) → S_LW_law_18 g s69 u71) ∧ (¬ r68 = r70 → False)))))) ∧ (((gXs g (x3).toNatClampNeg) &&& (31 : Int32)) = (12 : Int32) → vp_in (x3 + (1 : Int32)) (gXL g) ∧ (K_BB_would g (gXs g ((x3 + (1 : Int32))).toNatClampNeg) σ (fun (r73 : Int32) (s72 : St) => vp_in (x3 + (1 : Int32)) (gXL g) ∧ (K_BM_would g (gXs g ((x3 + (1 : Int32))).toNatClampNeg) s72 (fun (r75 : Int32) (s74 : St) => (r73 = r75 → ∀ u76 : Int32, u76 = x3 + (6 : Int32) → S_LW_law_18 g s74 u76) ∧ (¬ r73 = r75 → False)))))) ∧ (((gXs g (x3).toNatClampNeg) &&& (31 : Int32)) = (13 : Int32) → vp_in (x3 + (1 : Int32)) (gXL g) ∧ (vp_in (x3 + (2 : Int32)) (gXL g) ∧ (K_BB_sure g (gXs g ((x3 + (1 : Int32))).toNatClampNeg) (gXs g ((x3 + (2 : Int32))).toNatClampNeg) σ (fun (r78 : Int64) (s77 : St) => vp_in (x3 + (1 : Int32)) (gXL g) ∧ (vp_in (x3 + (2 : Int32)) (gXL g) ∧ (K_BM_sure g (gXs g ((x3 + (1 : Int32))).toNatClampNeg) (gXs g ((x3 + (2 : Int32))).toNatClampNeg) s77 (fun (r80 : Int64) (s79 : St) => ((lg_cmp r78 r80) = 0 → ∀ u81 : Int32, u81 = x3 + (6 : Int32) → S_LW_law_18 g s79 u81) ∧ (¬ (lg_cmp r78 r80) = 0 → False)))))))) ∧ (((gXs g (x3).toNatClampNeg) &&& (31 : Int32)) = (14 : Int32) → K_BB_fewest g σ (fun (r83 : Int32) (s82 : St) => K_BM_fewest g s82 (fun (r85 : Int32) (s84 : St) => (r83 = r85 → ∀ u86 : Int32, u86 = x3 + (6 : Int32) → S_LW_law_18 g s84 u86) ∧ (¬ r83 = r85 → False)))) ∧ (((gXs g (x3).toNatClampNeg) &&& (31 : Int32)) = (15 : Int32) → vp_in (x3 + (1 : Int32)) (gXL g) ∧ (K_BB_path g (gXs g ((x3 + (1 : Int32))).toNatClampNeg) σ (fun (r88 : Int32) (s87 : St) => vp_in (x3 + (1 : Int32)) (gXL g) ∧ (K_BM_path g (gXs g ((x3 + (1 : Int32))).toNatClampNeg) s87 (fun (r90 : Int32) (s89 : St) => (r88 = r90 → ∀ u91 : Int32, u91 = x3 + (6 : Int32) → S_LW_law_18 g s89 u91) ∧ (¬ r88 = r90 → False)))))) ∧ (((gXs g (x3).toNatClampNeg) &&& (31 : Int32)) = (16 : Int32) → vp_in (x3 + (1 : Int32)) (gXL g) ∧ (vp_in (x3 + (2 : Int32)) (gXL g) ∧ (K_BB_blind g (gXs g ((x3 + (1 : Int32))).toNatClampNeg) (gXs g ((x3 + (2 : Int32))).toNatClampNeg) σ (fun (r93 : Int32) (s92 : St) => vp_in (x3 + (1 : Int32)) (gXL g) ∧ (vp_in (x3 + (2 : Int32)) (gXL g) ∧ (K_BM_blind g (gXs g ((x3 + (1 : Int32))).toNatClampNeg) (gXs g ((x3 + (2 : Int32))).toNatClampNeg) s92 (fun (r95 : Int32) (s94 : St) => (r93 = r95 → ∀ u96 : Int32, u96 = x3 + (6 : Int32) → S_LW_law_18 g s94 u96) ∧ (¬ r93 = r95 → False)))))))) ∧ (((gXs g (x3).toNatClampNeg) &&& (31 : Int32)) = (17 : Int32) → vp_in (x3 + (1 : Int32)) (gXL g) ∧ (K_BB_chipped g (gXs g ((x3 + (1 : Int32))).toNatClampNeg) σ (fun (r98 : Int32) (s97 : St) => vp_in (x3 + (1 : Int32)) (gXL g) ∧ (K_BM_chipped g (gXs g ((x3 + (1 : Int32))).toNatClampNeg) s97 (fun (r100 : Int32) (s99 : St) => (r98 = r100 → ∀ u101 : Int32, u101 = x3 + (6 : Int32) → S_LW_law_18 g s99 u101) ∧ (¬ r98 = r100 → False)))))) ∧ (((gXs g (x3).toNatClampNeg) &&& (31 : Int32)) = (18 : Int32) → vp_in (x3 + (1 : Int32)) (gXL g) ∧ (K_BB_walled g (gXs g ((x3 + (1 : Int32))).toNatClampNeg) σ (fun (r103 : Int32) (s102 : St) => vp_in (x3 + (1 : Int32)) (gXL g) ∧ (K_BM_walled g (gXs g ((x3 + (1 : Int32))).toNatClampNeg) s102 (fun (r105 : Int32) (s104 : St) => (r103 = r105 → ∀ u106 : Int32, u106 = x3 + (6 : Int32) → S_LW_law_18 g s104 u106) ∧ (¬ r103 = r105 → False)))))) ∧ (((gXs g (x3).toNatClampNeg) &&& (31 : Int32)) = (19 : Int32) → vp_in (x3 + (1 : Int32)) (gXL g) ∧ (K_BB_hardest g (gXs g ((x3 + (1 : Int32))).toNatClampNeg) σ (fun (r108 : Int32) (s107 : St) => vp_in (x3 + (1 : Int32)) (gXL g) ∧ (K_BM_hardest g (gXs g ((x3 + (1 : Int32))).toNatClampNeg) s107 (fun (r110 : Int32) (s109 : St) => (r108 = r110 → ∀ u111 : Int32, u111 = x3 + (6 : Int32) → S_LW_law_18 g s109 u111) ∧ (¬ r108 = r110 → False)))))) ∧ (((gXs g (x3).toNatClampNeg) &&& (31 : Int32)) = (20 : Int32) → vp_in (x3 + (1 : Int32)) (gXL g) ∧ (vp_in (x3 + (2 : Int32)) (gXL g) ∧ (vp_in (x3 + (3 : Int32)) (gXL g) ∧ (K_BB_sound g (gXs g ((x3 + (1 : Int32))).toNatClampNeg) (gXs g ((x3 + (2 : Int32))).toNatClampNeg) (gXs g ((x3 + (3 : Int32))).toNatClampNeg) σ (fun (r113 : Int32) (s112 : St) => vp_in (x3 + (1 : Int32)) (gXL g) ∧ (vp_in (x3 + (2 : Int32)) (gXL g) ∧ (vp_in (x3 + (3 : Int32)) (gXL g) ∧ (K_BM_sound g (gXs g ((x3 + (1 : Int32))).toNatClampNeg) (gXs g ((x3 + (2 : Int32))).toNatClampNeg) (gXs g ((x3 + (3 : Int32))).toNatClampNeg) s112 (fun (r115 : Int32) (s114 : St) => (r113 = r115 → ∀ u116 : Int32, u116 = x3 + (6 : Int32) → S_LW_law_18 g s114 u116) ∧ (¬ r113 = r115 → False)))))))))) ∧ (((gXs g (x3).toNatClampNeg) &&& (31 : Int32)) = (21 : Int32) → vp_in (x3 + (1 : Int32)) (gXL g) ∧ (K_BB_fits g (gXs g ((x3 + (1 : Int32))).toNatClampNeg) σ (fun (r118 : Int32) (s117 : St) => vp_in (x3 + (1 : Int32)) (gXL g) ∧ (K_BM_fits g (gXs g ((x3 + (1 : Int32))).toNatClampNeg) s117 (fun (r120 : Int32) (s119 : St) => (r118 = r120 → ∀ u121 : Int32, u121 = x3 + (6 : Int32) → S_LW_law_18 g s119 u121) ∧ (¬ r118 = r120 → False)))))) ∧ (((gXs g (x3).toNatClampNeg) &&& (31 : Int32)) = (22 : Int32) → vp_in (x3 + (1 : Int32)) (gXL g) ∧ (K_BB_where g (gXs g ((x3 + (1 : Int32))).toNatClampNeg) σ (fun (r123 : Int64) (s122 : St) => vp_in (x3 + (1 : Int32)) (gXL g) ∧ (K_BM_where g (gXs g ((x3 + (1 : Int32))).toNatClampNeg) s122 (fun (r125 : Int64) (s124 : St) => ((lg_cmp r123 r125) = 0 → ∀ u126 : Int32, u126 = x3 + (6 : Int32) → S_LW_law_18 g s124 u126) ∧ (¬ (lg_cmp r123 r125) = 0 → False)))))) ∧ (((gXs g (x3).toNatClampNeg) &&& (31 : Int32)) = (23 : Int32) → vp_in (x3 + (1 : Int32)) (gXL g) ∧ (K_BB_tells g (gXs g ((x3 + (1 : Int32))).toNatClampNeg) σ (fun (r128 : Int32) (s127 : St) => vp_in (x3 + (1 : Int32)) (gXL g) ∧ (K_BM_tells g (gXs g ((x3 + (1 : Int32))).toNatClampNeg) s127 (fun (r130 : Int32) (s129 : St) => (r128 = r130 → ∀ u131 : Int32, u131 = x3 + (6 : Int32) → S_LW_law_18 g s129 u131) ∧ (¬ r128 = r130 → False)))))) ∧ (((gXs g (x3).toNatClampNeg) &&& (31 : Int32)) = (24 : Int32) → vp_in (x3 + (1 : Int32)) (gXL g) ∧ (vp_in (x3 + (2 : Int32)) (gXL g) ∧ (K_BB_game g (gXs g ((x3 + (1 : Int32))).toNatClampNeg) (gXs g ((x3 + (2 : Int32))).toNatClampNeg) σ (fun (r133 : Int32) (s132 : St) => vp_in (x3 + (1 : Int32)) (gXL g) ∧ (vp_in (x3 + (2 : Int32)) (gXL g) ∧ (K_BM_game g (gXs g ((x3 + (1 : Int32))).toNatClampNeg) (gXs g ((x3 + (2 : Int32))).toNatClampNeg) s132 (fun (r135 : Int32) (s134 : St) => (r133 = r135 → ∀ u136 : Int32, u136 = x3 + (6 : Int32) → S_LW_law_18 g s134 u136) ∧ (¬ r133 = r135 → False)))))))) ∧ (((gXs g (x3).toNatClampNeg) &&& (31 : Int32)) = (25 : Int32) → K_BB_book g σ (fun (r138 : Int32) (s137 : St) => K_BM_book g s137 (fun (r140 : Int32) (s139 : St) => (r138 = r140 → ∀ u141 : Int32, u141 = x3 + (6 : Int32) → S_LW_law_18 g s139 u141) ∧ (¬ r138 = r140 → False)))) ∧ (((gXs g (x3).toNatClampNeg) &&& (31 : Int32)) = (26 : Int32) → vp_in (x3 + (1 : Int32)) (gXL g) ∧ (K_BB_pain g (gXs g ((x3 + (1 : Int32))).toNatClampNeg) σ (fun (r143 : Int32) (s142 : St) => vp_in (x3 + (1 : Int32)) (gXL g) ∧ (K_BM_pain g (gXs g ((x3 + (1 : Int32))).toNatClampNeg) s142 (fun (r145 : Int32) (s144 : St) => (r143 = r145 → ∀ u146 : Int32, u146 = x3 + (6 : Int32) → S_LW_law_18 g s144 u146) ∧ (¬ r143 = r145 → False)))))) ∧ (((gXs g (x3).toNatClampNeg) &&& (31 : Int32)) = (27 : Int32) → vp_in (x3 + (1 : Int32)) (gXL g) ∧ (K_BB_seed g (gXs g ((x3 + (1 : Int32))).toNatClampNeg) σ (fun (r148 : Int32) (s147 : St) => vp_in (x3 + (1 : Int32)) (gXL g) ∧ (K_BM_seed g (gXs g ((x3 + (1 : Int32))).toNatClampNeg) s147 (fun (r150 : Int32) (s149 : St) => (r148 = r150 → ∀ u151 : Int32, u151 = x3 + (6 : Int32) → S_LW_law_18 g s149 u151) ∧ (¬ r148 = r150 → False)))))) ∧ (((gXs g (x3).toNatClampNeg) &&& (31 : Int32)) = (28 : Int32) → vp_in (x3 + (1 : Int32)) (gXL g) ∧ (vp_in (x3 + (2 : Int32)) (gXL g) ∧ (vp_in (x3 + (3 : Int32)) (gXL g) ∧ (K_BB_shaken g (gXs g ((x3 + (1 : Int32))).toNatClampNeg) (gXs g ((x3 + (2 : Int32))).toNatClampNeg) (gXs g ((x3 + (3 : Int32))).toNatClampNeg) σ (fun (r153 : Int32) (s152 : St) => vp_in (x3 + (1 : Int32)) (gXL g) ∧ (vp_in (x3 + (2 : Int32)) (gXL g) ∧ (vp_in (x3 + (3 : Int32)) (gXL g) ∧ (K_BM_shaken g (gXs g ((x3 + (1 : Int32))).toNatClampNeg) (gXs g ((x3 + (2 : Int32))).toNatClampNeg) (gXs g ((x3 + (3 : Int32))).toNatClampNeg) s152 (fun (r155 : Int32) (s154 : St) => (r153 = r155 → ∀ u156 : Int32, u156 = x3 + (6 : Int32) → S_LW_law_18 g s154 u156) ∧ (¬ r153 = r155 → False)))))))))) ∧ (((gXs g (x3).toNatClampNeg) &&& (31 : Int32)) = (29 : Int32) → vp_in (x3 + (1 : Int32)) (gXL g) ∧ (K_BB_count g (gXs g ((x3 + (1 : Int32))).toNatClampNeg) σ (fun (r158 : Int32) (s157 : St) => vp_in (x3 + (1 : Int32)) (gXL g) ∧ (K_BM_count g (gXs g ((x3 + (1 : Int32))).toNatClampNeg) s157 (fun (r160 : Int32) (s159 : St) => (r158 = r160 → ∀ u161 : Int32, u161 = x3 + (6 : Int32) → S_LW_law_18 g s159 u161) ∧ (¬ r158 = r160 → False)))))) ∧ (((gXs g (x3).toNatClampNeg) &&& (31 : Int32)) = (30 : Int32) → vp_in (x3 + (1 : Int32)) (gXL g) ∧ (K_BB_image g (gXs g ((x3 + (1 : Int32))).toNatClampNeg) σ (fun (r163 : Int32) (s162 : St) => vp_in (x3 + (1 : Int32)) (gXL g) ∧ (K_BM_image g (gXs g ((x3 + (1 : Int32))).toNatClampNeg) s162 (fun (r165 : Int32) (s164 : St) => (r163 = r165 → ∀ u166 : Int32, u166 = x3 + (6 : Int32) → S_LW_law_18 g s164 u166) ∧ (¬ r163 = r165 → False)))))) ∧ (((gXs g (x3).toNatClampNeg) &&& (31 : Int32)) = (31 : Int32) → vp_in (x3 + (1 : Int32)) (gXL g) ∧ (K_BB_back g (gXs g ((x3 + (1 : Int32))).toNatClampNeg) σ (fun (r168 : Int32) (s167 : St) => vp_in (x3 + (1 : Int32)) (gXL g) ∧ (K_BM_back g (gXs g ((x3 + (1 : Int32))).toNatClampNeg) s167 (fun (r170 : Int32) (s169 : St) => (r168 = r170 → ∀ u171 : Int32, u171 = x3 + (6 : Int32) → S_LW_law_18 g s169 u171) ∧ (¬ r168 = r170 → False)))))) ∧ (¬ ((gXs g (x3).toNatClampNeg) &&& (31 : Int32)) = (0 : Int32) → ¬ ((gXs g (x3).toNatClampNeg) &&& (31 : Int32)) = (1 : Int32) → ¬ ((gXs g (x3).toNatClampNeg) &&& (31 : Int32)) = (2 : Int32) → ¬ ((gXs g (x3).toNatClampNeg) &&& (31 : Int32)) = (3 : Int32) → ¬ ((gXs g (x3).toNatClampNeg) &&& (31 : Int32)) = (4 : Int32) → ¬ ((gXs g (x3).toNatClampNeg) &&& (31 : Int32)) = (5 : Int32) → ¬ ((gXs g (x3).toNatClampNeg) &&& (31 : Int32)) = (6 : Int32) → ¬ ((gXs g (x3).toNatClampNeg) &&& (31 : Int32)) = (7 : Int32) → ¬ ((gXs g (x3).toNatClampNeg) &&& (31 : Int32)) = (8 : Int32) → ¬ ((gXs g (x3).toNatClampNeg) &&& (31 : Int32)) = (9 : Int32) → ¬ ((gXs g (x3).toNatClampNeg) &&& (31 : Int32)) = (10 : Int32) → ¬ ((gXs g (x3).toNatClampNeg) &&& (31 : Int32)) = (11 : Int32) → ¬ ((gXs g (x3).toNatClampNeg) &&& (31 : Int32)) = (12 : Int32) → ¬ ((gXs g (x3).toNatClampNeg) &&& (31 : Int32)) = (13 : Int32) → ¬ ((gXs g (x3).toNatClampNeg) &&& (31 : Int32)) = (14 : Int32) → ¬ ((gXs g (x3).toNatClampNeg) &&& (31 : Int32)) = (15 : Int32) → ¬ ((gXs g (x3).toNatClampNeg) &&& (31 : Int32)) = (16 : Int32) → ¬ ((gXs g (x3).toNatClampNeg) &&& (31 : Int32)) = (17 : Int32) → ¬ ((gXs g (x3).toNatClampNeg) &&& (31 : Int32)) = (18 : Int32) → ¬ ((gXs g (x3).toNatClampNeg) &&& (31 : Int32)) = (19 : Int32) → ¬ ((gXs g (x3).toNatClampNeg) &&& (31 : Int32)) = (20 : Int32) → ¬ ((gXs g (x3).toNatClampNeg) &&& (31 : Int32)) = (21 : Int32) → ¬ ((gXs g (x3).toNatClampNeg) &&& (31 : Int32)) = (22 : Int32) → ¬ ((gXs g (x3).toNatClampNeg) &&& (31 : Int32)) = (23 : Int32) → ¬ ((gXs g (x3).toNatClampNeg) &&& (31 : Int32)) = (24 : Int32) → ¬ ((gXs g (x3).toNatClampNeg) &&& (31 : Int32)) = (25 : Int32) → ¬ ((gXs g (x3).toNatClampNeg) &&& (31 : Int32)) = (26 : Int32) → ¬ ((gXs g (x3).toNatClampNeg) &&& (31 : Int32)) = (27 : Int32) → ¬ ((gXs g (x3).toNatClampNeg) &&& (31 : Int32)) = (28 : Int32) → ¬ ((gXs g (x3).toNatClampNeg) &&& (31 : Int32)) = (29 : Int32) → ¬ ((gXs g (x3).toNatClampNeg) &&& (31 : Int32)) = (30 : Int32) → ¬ ((gXs g (x3).toNatClampNeg) &&& (31 : Int32)) = (31 : Int32) → ∀ u172 : Int32, u172 = x3 + (6 : Int32) → S_LW_law_18 g σ u172))))) : S_LW_law_18 g σ x3 := by
  show Ax g m_LW_law 600000 7302250 lw_Z SH σ 199 156995 18 [(0, .ref (gXb g)), (1, .ref (gB g + 0)), (2, .ref (gB g + 151)), (3, .int x3)] []
  refine a_iload_n (pc := 18) 3 rfl rfl d_LW_law_18 ?_
  refine a_aload_n (pc := 19) 0 rfl rfl d_LW_law_19 ?_
  refine a_sclen (pc := 20) d_LW_law_20 ?_
  refine a_bipush (pc := 21) (6 : Int32) (by decide) d_LW_law_21 ?_
  refine a_isub (pc := 23) d_LW_law_23 ?_
  refine a_icmp_gt (pc := 24) 1076 (by decide) d_LW_law_24 ⟨fun c0 => ?_, fun c0 => ?_⟩
  · replace h := h.1 c0
    refine a_iconst (pc := 1076) (1 : Int32) (by decide) d_LW_law_1076 ?_
    exact a_lawret (pc := 1077) (by decide) d_LW_law_1077
  · replace h := h.2 c0
    refine a_aload_n (pc := 27) 0 rfl rfl d_LW_law_27 ?_
    refine a_iload_n (pc := 28) 3 rfl rfl d_LW_law_28 ?_
    obtain ⟨hx, h⟩ := h
    refine a_scld (pc := 29) hx d_LW_law_29 ?_
    refine a_bipush (pc := 30) (31 : Int32) (by decide) d_LW_law_30 ?_
    refine a_iand (pc := 32) d_LW_law_32 ?_
    by_cases c0 : ((gXs g (x3).toNatClampNeg) &&& (31 : Int32)) = (0 : Int32)
    · replace h := h.1 c0
      refine a_tableIn (pc := 33) 176 (off := 143) (by rw [c0]; decide) (by rw [c0]; decide) (by rw [c0]; rfl) (by decide) d_LW_law_33 ?_
      refine a_aload_n (pc := 176) 1 rfl rfl d_LW_law_176 ?_
      refine a_aload_n (pc := 177) 0 rfl rfl d_LW_law_177 ?_
      refine a_iload_n (pc := 178) 3 rfl rfl d_LW_law_178 ?_
      refine a_iconst (pc := 179) (1 : Int32) (by decide) d_LW_law_179 ?_
      refine a_iadd (pc := 180) d_LW_law_180 ?_
      obtain ⟨hx, h⟩ := h
      refine a_scld (pc := 181) hx d_LW_law_181 ?_
      refine a_aload_n (pc := 182) 0 rfl rfl d_LW_law_182 ?_
      refine a_iload_n (pc := 183) 3 rfl rfl d_LW_law_183 ?_
      refine a_iconst (pc := 184) (2 : Int32) (by decide) d_LW_law_184 ?_
      refine a_iadd (pc := 185) d_LW_law_185 ?_
      obtain ⟨hx, h⟩ := h
      refine a_scld (pc := 186) hx d_LW_law_186 ?_
      refine a_aload_n (pc := 187) 0 rfl rfl d_LW_law_187 ?_
      refine a_iload_n (pc := 188) 3 rfl rfl d_LW_law_188 ?_
      refine a_iconst (pc := 189) (3 : Int32) (by decide) d_LW_law_189 ?_
      refine a_iadd (pc := 190) d_LW_law_190 ?_
      obtain ⟨hx, h⟩ := h
      refine a_scld (pc := 191) hx d_LW_law_191 ?_
      refine a_aload_n (pc := 192) 0 rfl rfl d_LW_law_192 ?_
      refine a_iload_n (pc := 193) 3 rfl rfl d_LW_law_193 ?_
      refine a_iconst (pc := 194) (4 : Int32) (by decide) d_LW_law_194 ?_
      refine a_iadd (pc := 195) d_LW_law_195 ?_
      obtain ⟨hx, h⟩ := h
      refine a_scld (pc := 196) hx d_LW_law_196 ?_
      refine a_aload_n (pc := 197) 0 rfl rfl d_LW_law_197 ?_
      refine a_iload_n (pc := 198) 3 rfl rfl d_LW_law_198 ?_
      refine a_iconst (pc := 199) (5 : Int32) (by decide) d_LW_law_199 ?_
      refine a_iadd (pc := 200) d_LW_law_200 ?_
      obtain ⟨hx, h⟩ := h
      refine a_scld (pc := 201) hx d_LW_law_201 ?_
      refine a_callV (pc := 202) (M' := m_BB_feed) (As := [.int (gXs g ((x3 + (1 : Int32))).toNatClampNeg), .int (gXs g ((x3 + (2 : Int32))).toNatClampNeg), .int (gXs g ((x3 + (3 : Int32))).toNatClampNeg), .int (gXs g ((x3 + (4 : Int32))).toNatClampNeg), .int (gXs g ((x3 + (5 : Int32))).toNatClampNeg)]) (st := []) (mc' := 0) (ms' := 0) lk_LW_13 rfl sx_0 rfl (by decide) (by decide) rfl (Nat.le_of_ble_eq_true rfl) (by decide) (by decide) d_LW_law_202 h ?_
      rintro _ _ s1 ⟨r2, rfl, rfl, h⟩ -
      show Ax g m_LW_law 600000 7302250 lw_Z SH s1 199 156995 205 [(0, .ref (gXb g)), (1, .ref (gB g + 0)), (2, .ref (gB g + 151)), (3, .int x3)] [.int r2]
      refine a_aload_n (pc := 205) 2 rfl rfl d_LW_law_205 ?_
      refine a_aload_n (pc := 206) 0 rfl rfl d_LW_law_206 ?_
      refine a_iload_n (pc := 207) 3 rfl rfl d_LW_law_207 ?_
      refine a_iconst (pc := 208) (1 : Int32) (by decide) d_LW_law_208 ?_
      refine a_iadd (pc := 209) d_LW_law_209 ?_
      obtain ⟨hx, h⟩ := h
      refine a_scld (pc := 210) hx d_LW_law_210 ?_
      refine a_aload_n (pc := 211) 0 rfl rfl d_LW_law_211 ?_
      refine a_iload_n (pc := 212) 3 rfl rfl d_LW_law_212 ?_
      refine a_iconst (pc := 213) (2 : Int32) (by decide) d_LW_law_213 ?_
      refine a_iadd (pc := 214) d_LW_law_214 ?_
      obtain ⟨hx, h⟩ := h
      refine a_scld (pc := 215) hx d_LW_law_215 ?_
      refine a_aload_n (pc := 216) 0 rfl rfl d_LW_law_216 ?_
      refine a_iload_n (pc := 217) 3 rfl rfl d_LW_law_217 ?_
      refine a_iconst (pc := 218) (3 : Int32) (by decide) d_LW_law_218 ?_
      refine a_iadd (pc := 219) d_LW_law_219 ?_
      obtain ⟨hx, h⟩ := h
      refine a_scld (pc := 220) hx d_LW_law_220 ?_
      refine a_aload_n (pc := 221) 0 rfl rfl d_LW_law_221 ?_
      refine a_iload_n (pc := 222) 3 rfl rfl d_LW_law_222 ?_
      refine a_iconst (pc := 223) (4 : Int32) (by decide) d_LW_law_223 ?_
      refine a_iadd (pc := 224) d_LW_law_224 ?_
      obtain ⟨hx, h⟩ := h
      refine a_scld (pc := 225) hx d_LW_law_225 ?_
      refine a_aload_n (pc := 226) 0 rfl rfl d_LW_law_226 ?_
      refine a_iload_n (pc := 227) 3 rfl rfl d_LW_law_227 ?_
      refine a_iconst (pc := 228) (5 : Int32) (by decide) d_LW_law_228 ?_
      refine a_iadd (pc := 229) d_LW_law_229 ?_
      obtain ⟨hx, h⟩ := h
      refine a_scld (pc := 230) hx d_LW_law_230 ?_
      refine a_callV (pc := 231) (M' := m_BM_feed) (As := [.int (gXs g ((x3 + (1 : Int32))).toNatClampNeg), .int (gXs g ((x3 + (2 : Int32))).toNatClampNeg), .int (gXs g ((x3 + (3 : Int32))).toNatClampNeg), .int (gXs g ((x3 + (4 : Int32))).toNatClampNeg), .int (gXs g ((x3 + (5 : Int32))).toNatClampNeg)]) (st := [.int r2]) (mc' := 0) (ms' := 0) lk_LW_17 rfl sx_151 rfl (by decide) (by decide) rfl (Nat.le_of_ble_eq_true rfl) (by decide) (by decide) d_LW_law_231 h ?_
      rintro _ _ s3 ⟨r4, rfl, rfl, h⟩ -
      show Ax g m_LW_law 600000 7302250 lw_Z SH s3 199 156995 234 [(0, .ref (gXb g)), (1, .ref (gB g + 0)), (2, .ref (gB g + 151)), (3, .int x3)] [.int r4, .int r2]
      refine a_icmp_eq (pc := 234) 1070 (by decide) d_LW_law_234 ⟨fun c0 => ?_, fun c0 => ?_⟩
      · replace h := h.1 c0
        obtain ⟨u5, hu5⟩ : ∃ y : Int32, y = x3 + (6 : Int32) := ⟨_, rfl⟩
        replace h := h u5 hu5
        refine a_iinc (pc := 1070) (v := u5) (lv' := [(3, .int u5), (0, .ref (gXb g)), (1, .ref (gB g + 0)), (2, .ref (gB g + 151))]) 3 rfl (by rw [hu5]; rfl) (Nat.le_of_ble_eq_true rfl) rfl d_LW_law_1070 ?_
        refine a_goto (pc := 1073) 18 (by decide) d_LW_law_1073 ?_
        refine a_sub (pc := 18) [1, 2, 3, 0] rfl ?_
        exact h
      · replace h := h.2 c0
        refine a_iconst (pc := 237) (0 : Int32) (by decide) d_LW_law_237 ?_
        exact h.elim
    replace h := h.2
    by_cases c1 : ((gXs g (x3).toNatClampNeg) &&& (31 : Int32)) = (1 : Int32)
    · replace h := h.1 c1
      refine a_tableIn (pc := 33) 239 (off := 206) (by rw [c1]; decide) (by rw [c1]; decide) (by rw [c1]; rfl) (by decide) d_LW_law_33 ?_
      refine a_aload_n (pc := 239) 1 rfl rfl d_LW_law_239 ?_
      refine a_aload_n (pc := 240) 0 rfl rfl d_LW_law_240 ?_
      refine a_iload_n (pc := 241) 3 rfl rfl d_LW_law_241 ?_
      refine a_iconst (pc := 242) (1 : Int32) (by decide) d_LW_law_242 ?_
      refine a_iadd (pc := 243) d_LW_law_243 ?_
      obtain ⟨hx, h⟩ := h
      refine a_scld (pc := 244) hx d_LW_law_244 ?_
      refine a_callV (pc := 245) (M' := m_BB_end) (As := [.int (gXs g ((x3 + (1 : Int32))).toNatClampNeg)]) (st := []) (mc' := 0) (ms' := 0) lk_LW_18 rfl sx_0 rfl (by decide) (by decide) rfl (Nat.le_of_ble_eq_true rfl) (by decide) (by decide) d_LW_law_245 h ?_
      rintro _ _ s6 ⟨r7, rfl, rfl, h⟩ -
      show Ax g m_LW_law 600000 7302250 lw_Z SH s6 199 156995 248 [(0, .ref (gXb g)), (1, .ref (gB g + 0)), (2, .ref (gB g + 151)), (3, .int x3)] [.int r7]
      refine a_aload_n (pc := 248) 2 rfl rfl d_LW_law_248 ?_
      refine a_aload_n (pc := 249) 0 rfl rfl d_LW_law_249 ?_
      refine a_iload_n (pc := 250) 3 rfl rfl d_LW_law_250 ?_
      refine a_iconst (pc := 251) (1 : Int32) (by decide) d_LW_law_251 ?_
      refine a_iadd (pc := 252) d_LW_law_252 ?_
      obtain ⟨hx, h⟩ := h
      refine a_scld (pc := 253) hx d_LW_law_253 ?_
      refine a_callV (pc := 254) (M' := m_BM_end) (As := [.int (gXs g ((x3 + (1 : Int32))).toNatClampNeg)]) (st := [.int r7]) (mc' := 0) (ms' := 0) lk_LW_22 rfl sx_151 rfl (by decide) (by decide) rfl (Nat.le_of_ble_eq_true rfl) (by decide) (by decide) d_LW_law_254 h ?_
      rintro _ _ s8 ⟨r9, rfl, rfl, h⟩ -
      show Ax g m_LW_law 600000 7302250 lw_Z SH s8 199 156995 257 [(0, .ref (gXb g)), (1, .ref (gB g + 0)), (2, .ref (gB g + 151)), (3, .int x3)] [.int r9, .int r7]
      refine a_icmp_eq (pc := 257) 1070 (by decide) d_LW_law_257 ⟨fun c0 => ?_, fun c0 => ?_⟩
      · replace h := h.1 c0
        obtain ⟨u10, hu10⟩ : ∃ y : Int32, y = x3 + (6 : Int32) := ⟨_, rfl⟩
        replace h := h u10 hu10
        refine a_iinc (pc := 1070) (v := u10) (lv' := [(3, .int u10), (0, .ref (gXb g)), (1, .ref (gB g + 0)), (2, .ref (gB g + 151))]) 3 rfl (by rw [hu10]; rfl) (Nat.le_of_ble_eq_true rfl) rfl d_LW_law_1070 ?_
        refine a_goto (pc := 1073) 18 (by decide) d_LW_law_1073 ?_
        refine a_sub (pc := 18) [1, 2, 3, 0] rfl ?_
        exact h
      · replace h := h.2 c0
        refine a_iconst (pc := 260) (0 : Int32) (by decide) d_LW_law_260 ?_
        exact h.elim
    replace h := h.2
    by_cases c2 : ((gXs g (x3).toNatClampNeg) &&& (31 : Int32)) = (2 : Int32)
    · replace h := h.1 c2
      refine a_tableIn (pc := 33) 262 (off := 229) (by rw [c2]; decide) (by rw [c2]; decide) (by rw [c2]; rfl) (by decide) d_LW_law_33 ?_
      refine a_aload_n (pc := 262) 1 rfl rfl d_LW_law_262 ?_
      refine a_callV (pc := 263) (M' := m_BB_box) (As := []) (st := []) (mc' := 0) (ms' := 0) lk_LW_23 rfl sx_0 rfl (by decide) (by decide) rfl (Nat.le_of_ble_eq_true rfl) (by decide) (by decide) d_LW_law_263 h ?_
      rintro _ _ s11 ⟨r12, rfl, rfl, h⟩ -
      show Ax g m_LW_law 600000 7302250 lw_Z SH s11 199 156995 266 [(0, .ref (gXb g)), (1, .ref (gB g + 0)), (2, .ref (gB g + 151)), (3, .int x3)] [.int r12]
      refine a_aload_n (pc := 266) 2 rfl rfl d_LW_law_266 ?_
      refine a_callV (pc := 267) (M' := m_BM_box) (As := []) (st := [.int r12]) (mc' := 0) (ms' := 0) lk_LW_27 rfl sx_151 rfl (by decide) (by decide) rfl (Nat.le_of_ble_eq_true rfl) (by decide) (by decide) d_LW_law_267 h ?_
      rintro _ _ s13 ⟨r14, rfl, rfl, h⟩ -
      show Ax g m_LW_law 600000 7302250 lw_Z SH s13 199 156995 270 [(0, .ref (gXb g)), (1, .ref (gB g + 0)), (2, .ref (gB g + 151)), (3, .int x3)] [.int r14, .int r12]
      refine a_icmp_eq (pc := 270) 1070 (by decide) d_LW_law_270 ⟨fun c0 => ?_, fun c0 => ?_⟩
      · replace h := h.1 c0
        obtain ⟨u15, hu15⟩ : ∃ y : Int32, y = x3 + (6 : Int32) := ⟨_, rfl⟩
        replace h := h u15 hu15
        refine a_iinc (pc := 1070) (v := u15) (lv' := [(3, .int u15), (0, .ref (gXb g)), (1, .ref (gB g + 0)), (2, .ref (gB g + 151))]) 3 rfl (by rw [hu15]; rfl) (Nat.le_of_ble_eq_true rfl) rfl d_LW_law_1070 ?_
        refine a_goto (pc := 1073) 18 (by decide) d_LW_law_1073 ?_
        refine a_sub (pc := 18) [1, 2, 3, 0] rfl ?_
        exact h
      · replace h := h.2 c0
        refine a_iconst (pc := 273) (0 : Int32) (by decide) d_LW_law_273 ?_
        exact h.elim
    replace h := h.2
    by_cases c3 : ((gXs g (x3).toNatClampNeg) &&& (31 : Int32)) = (3 : Int32)
    · replace h := h.1 c3
      refine a_tableIn (pc := 33) 275 (off := 242) (by rw [c3]; decide) (by rw [c3]; decide) (by rw [c3]; rfl) (by decide) d_LW_law_33 ?_
      refine a_aload_n (pc := 275) 1 rfl rfl d_LW_law_275 ?_
      refine a_callV (pc := 276) (M' := m_BB_rule) (As := []) (st := []) (mc' := 0) (ms' := 0) lk_LW_28 rfl sx_0 rfl (by decide) (by decide) rfl (Nat.le_of_ble_eq_true rfl) (by decide) (by decide) d_LW_law_276 h ?_
      rintro _ _ s16 ⟨r17, rfl, rfl, h⟩ -
      show Ax g m_LW_law 600000 7302250 lw_Z SH s16 199 156995 279 [(0, .ref (gXb g)), (1, .ref (gB g + 0)), (2, .ref (gB g + 151)), (3, .int x3)] [.int r17]
      refine a_aload_n (pc := 279) 2 rfl rfl d_LW_law_279 ?_
      refine a_callV (pc := 280) (M' := m_BM_rule) (As := []) (st := [.int r17]) (mc' := 0) (ms' := 0) lk_LW_31 rfl sx_151 rfl (by decide) (by decide) rfl (Nat.le_of_ble_eq_true rfl) (by decide) (by decide) d_LW_law_280 h ?_
      rintro _ _ s18 ⟨r19, rfl, rfl, h⟩ -
      show Ax g m_LW_law 600000 7302250 lw_Z SH s18 199 156995 283 [(0, .ref (gXb g)), (1, .ref (gB g + 0)), (2, .ref (gB g + 151)), (3, .int x3)] [.int r19, .int r17]
      refine a_icmp_eq (pc := 283) 1070 (by decide) d_LW_law_283 ⟨fun c0 => ?_, fun c0 => ?_⟩
      · replace h := h.1 c0
        obtain ⟨u20, hu20⟩ : ∃ y : Int32, y = x3 + (6 : Int32) := ⟨_, rfl⟩
        replace h := h u20 hu20
        refine a_iinc (pc := 1070) (v := u20) (lv' := [(3, .int u20), (0, .ref (gXb g)), (1, .ref (gB g + 0)), (2, .ref (gB g + 151))]) 3 rfl (by rw [hu20]; rfl) (Nat.le_of_ble_eq_true rfl) rfl d_LW_law_1070 ?_
        refine a_goto (pc := 1073) 18 (by decide) d_LW_law_1073 ?_
        refine a_sub (pc := 18) [1, 2, 3, 0] rfl ?_
        exact h
      · replace h := h.2 c0
        refine a_iconst (pc := 286) (0 : Int32) (by decide) d_LW_law_286 ?_
        exact h.elim
    replace h := h.2
    by_cases c4 : ((gXs g (x3).toNatClampNeg) &&& (31 : Int32)) = (4 : Int32)
    · replace h := h.1 c4
      refine a_tableIn (pc := 33) 288 (off := 255) (by rw [c4]; decide) (by rw [c4]; decide) (by rw [c4]; rfl) (by decide) d_LW_law_33 ?_
      refine a_aload_n (pc := 288) 1 rfl rfl d_LW_law_288 ?_
      refine a_aload_n (pc := 289) 0 rfl rfl d_LW_law_289 ?_
      refine a_iload_n (pc := 290) 3 rfl rfl d_LW_law_290 ?_
      refine a_iconst (pc := 291) (1 : Int32) (by decide) d_LW_law_291 ?_
      refine a_iadd (pc := 292) d_LW_law_292 ?_
      obtain ⟨hx, h⟩ := h
      refine a_scld (pc := 293) hx d_LW_law_293 ?_
      refine a_callV (pc := 294) (M' := m_BB_force) (As := [.int (gXs g ((x3 + (1 : Int32))).toNatClampNeg)]) (st := []) (mc' := 0) (ms' := 0) lk_LW_32 rfl sx_0 rfl (by decide) (by decide) rfl (Nat.le_of_ble_eq_true rfl) (by decide) (by decide) d_LW_law_294 h ?_
      rintro _ _ s21 ⟨r22, rfl, rfl, h⟩ -
      show Ax g m_LW_law 600000 7302250 lw_Z SH s21 199 156995 297 [(0, .ref (gXb g)), (1, .ref (gB g + 0)), (2, .ref (gB g + 151)), (3, .int x3)] [.int r22]
      refine a_aload_n (pc := 297) 2 rfl rfl d_LW_law_297 ?_
      refine a_aload_n (pc := 298) 0 rfl rfl d_LW_law_298 ?_
      refine a_iload_n (pc := 299) 3 rfl rfl d_LW_law_299 ?_
      refine a_iconst (pc := 300) (1 : Int32) (by decide) d_LW_law_300 ?_
      refine a_iadd (pc := 301) d_LW_law_301 ?_
      obtain ⟨hx, h⟩ := h
      refine a_scld (pc := 302) hx d_LW_law_302 ?_
      refine a_callV (pc := 303) (M' := m_BM_force) (As := [.int (gXs g ((x3 + (1 : Int32))).toNatClampNeg)]) (st := [.int r22]) (mc' := 0) (ms' := 0) lk_LW_35 rfl sx_151 rfl (by decide) (by decide) rfl (Nat.le_of_ble_eq_true rfl) (by decide) (by decide) d_LW_law_303 h ?_
      rintro _ _ s23 ⟨r24, rfl, rfl, h⟩ -
      show Ax g m_LW_law 600000 7302250 lw_Z SH s23 199 156995 306 [(0, .ref (gXb g)), (1, .ref (gB g + 0)), (2, .ref (gB g + 151)), (3, .int x3)] [.int r24, .int r22]
      refine a_icmp_eq (pc := 306) 1070 (by decide) d_LW_law_306 ⟨fun c0 => ?_, fun c0 => ?_⟩
      · replace h := h.1 c0
        obtain ⟨u25, hu25⟩ : ∃ y : Int32, y = x3 + (6 : Int32) := ⟨_, rfl⟩
        replace h := h u25 hu25
        refine a_iinc (pc := 1070) (v := u25) (lv' := [(3, .int u25), (0, .ref (gXb g)), (1, .ref (gB g + 0)), (2, .ref (gB g + 151))]) 3 rfl (by rw [hu25]; rfl) (Nat.le_of_ble_eq_true rfl) rfl d_LW_law_1070 ?_
        refine a_goto (pc := 1073) 18 (by decide) d_LW_law_1073 ?_
        refine a_sub (pc := 18) [1, 2, 3, 0] rfl ?_
        exact h
      · replace h := h.2 c0
        refine a_iconst (pc := 309) (0 : Int32) (by decide) d_LW_law_309 ?_
        exact h.elim
    replace h := h.2
    by_cases c5 : ((gXs g (x3).toNatClampNeg) &&& (31 : Int32)) = (5 : Int32)
    · replace h := h.1 c5
      refine a_tableIn (pc := 33) 311 (off := 278) (by rw [c5]; decide) (by rw [c5]; decide) (by rw [c5]; rfl) (by decide) d_LW_law_33 ?_
      refine a_aload_n (pc := 311) 1 rfl rfl d_LW_law_311 ?_
      refine a_aload_n (pc := 312) 0 rfl rfl d_LW_law_312 ?_
      refine a_iload_n (pc := 313) 3 rfl rfl d_LW_law_313 ?_
      refine a_iconst (pc := 314) (1 : Int32) (by decide) d_LW_law_314 ?_
      refine a_iadd (pc := 315) d_LW_law_315 ?_
      obtain ⟨hx, h⟩ := h
      refine a_scld (pc := 316) hx d_LW_law_316 ?_
      refine a_aload_n (pc := 317) 0 rfl rfl d_LW_law_317 ?_
      refine a_iload_n (pc := 318) 3 rfl rfl d_LW_law_318 ?_
      refine a_iconst (pc := 319) (2 : Int32) (by decide) d_LW_law_319 ?_
      refine a_iadd (pc := 320) d_LW_law_320 ?_
      obtain ⟨hx, h⟩ := h
      refine a_scld (pc := 321) hx d_LW_law_321 ?_
      refine a_aload_n (pc := 322) 0 rfl rfl d_LW_law_322 ?_
      refine a_iload_n (pc := 323) 3 rfl rfl d_LW_law_323 ?_
      refine a_iconst (pc := 324) (3 : Int32) (by decide) d_LW_law_324 ?_
      refine a_iadd (pc := 325) d_LW_law_325 ?_
      obtain ⟨hx, h⟩ := h
      refine a_scld (pc := 326) hx d_LW_law_326 ?_
      refine a_callV (pc := 327) (M' := m_BB_cell) (As := [.int (gXs g ((x3 + (1 : Int32))).toNatClampNeg), .int (gXs g ((x3 + (2 : Int32))).toNatClampNeg), .int (gXs g ((x3 + (3 : Int32))).toNatClampNeg)]) (st := []) (mc' := 0) (ms' := 0) lk_LW_36 rfl sx_0 rfl (by decide) (by decide) rfl (Nat.le_of_ble_eq_true rfl) (by decide) (by decide) d_LW_law_327 h ?_
      rintro _ _ s26 ⟨r27, rfl, rfl, h⟩ -
      show Ax g m_LW_law 600000 7302250 lw_Z SH s26 199 156995 330 [(0, .ref (gXb g)), (1, .ref (gB g + 0)), (2, .ref (gB g + 151)), (3, .int x3)] [.int r27]
      refine a_aload_n (pc := 330) 2 rfl rfl d_LW_law_330 ?_
      refine a_aload_n (pc := 331) 0 rfl rfl d_LW_law_331 ?_
      refine a_iload_n (pc := 332) 3 rfl rfl d_LW_law_332 ?_
      refine a_iconst (pc := 333) (1 : Int32) (by decide) d_LW_law_333 ?_
      refine a_iadd (pc := 334) d_LW_law_334 ?_
      obtain ⟨hx, h⟩ := h
      refine a_scld (pc := 335) hx d_LW_law_335 ?_
      refine a_aload_n (pc := 336) 0 rfl rfl d_LW_law_336 ?_
      refine a_iload_n (pc := 337) 3 rfl rfl d_LW_law_337 ?_
      refine a_iconst (pc := 338) (2 : Int32) (by decide) d_LW_law_338 ?_
      refine a_iadd (pc := 339) d_LW_law_339 ?_
      obtain ⟨hx, h⟩ := h
      refine a_scld (pc := 340) hx d_LW_law_340 ?_
      refine a_aload_n (pc := 341) 0 rfl rfl d_LW_law_341 ?_
      refine a_iload_n (pc := 342) 3 rfl rfl d_LW_law_342 ?_
      refine a_iconst (pc := 343) (3 : Int32) (by decide) d_LW_law_343 ?_
      refine a_iadd (pc := 344) d_LW_law_344 ?_
      obtain ⟨hx, h⟩ := h
      refine a_scld (pc := 345) hx d_LW_law_345 ?_
      refine a_callV (pc := 346) (M' := m_BM_cell) (As := [.int (gXs g ((x3 + (1 : Int32))).toNatClampNeg), .int (gXs g ((x3 + (2 : Int32))).toNatClampNeg), .int (gXs g ((x3 + (3 : Int32))).toNatClampNeg)]) (st := [.int r27]) (mc' := 0) (ms' := 0) lk_LW_40 rfl sx_151 rfl (by decide) (by decide) rfl (Nat.le_of_ble_eq_true rfl) (by decide) (by decide) d_LW_law_346 h ?_
      rintro _ _ s28 ⟨r29, rfl, rfl, h⟩ -
      show Ax g m_LW_law 600000 7302250 lw_Z SH s28 199 156995 349 [(0, .ref (gXb g)), (1, .ref (gB g + 0)), (2, .ref (gB g + 151)), (3, .int x3)] [.int r29, .int r27]
      refine a_icmp_eq (pc := 349) 1070 (by decide) d_LW_law_349 ⟨fun c0 => ?_, fun c0 => ?_⟩
      · replace h := h.1 c0
        obtain ⟨u30, hu30⟩ : ∃ y : Int32, y = x3 + (6 : Int32) := ⟨_, rfl⟩
        replace h := h u30 hu30
        refine a_iinc (pc := 1070) (v := u30) (lv' := [(3, .int u30), (0, .ref (gXb g)), (1, .ref (gB g + 0)), (2, .ref (gB g + 151))]) 3 rfl (by rw [hu30]; rfl) (Nat.le_of_ble_eq_true rfl) rfl d_LW_law_1070 ?_
        refine a_goto (pc := 1073) 18 (by decide) d_LW_law_1073 ?_
        refine a_sub (pc := 18) [1, 2, 3, 0] rfl ?_
        exact h
      · replace h := h.2 c0
        refine a_iconst (pc := 352) (0 : Int32) (by decide) d_LW_law_352 ?_
        exact h.elim
    replace h := h.2
    by_cases c6 : ((gXs g (x3).toNatClampNeg) &&& (31 : Int32)) = (6 : Int32)
    · replace h := h.1 c6
      refine a_tableIn (pc := 33) 354 (off := 321) (by rw [c6]; decide) (by rw [c6]; decide) (by rw [c6]; rfl) (by decide) d_LW_law_33 ?_
      refine a_aload_n (pc := 354) 1 rfl rfl d_LW_law_354 ?_
      refine a_aload_n (pc := 355) 0 rfl rfl d_LW_law_355 ?_
      refine a_iload_n (pc := 356) 3 rfl rfl d_LW_law_356 ?_
      refine a_iconst (pc := 357) (1 : Int32) (by decide) d_LW_law_357 ?_
      refine a_iadd (pc := 358) d_LW_law_358 ?_
      obtain ⟨hx, h⟩ := h
      refine a_scld (pc := 359) hx d_LW_law_359 ?_
      refine a_aload_n (pc := 360) 0 rfl rfl d_LW_law_360 ?_
      refine a_iload_n (pc := 361) 3 rfl rfl d_LW_law_361 ?_
      refine a_iconst (pc := 362) (2 : Int32) (by decide) d_LW_law_362 ?_
      refine a_iadd (pc := 363) d_LW_law_363 ?_
      obtain ⟨hx, h⟩ := h
      refine a_scld (pc := 364) hx d_LW_law_364 ?_
      refine a_callV (pc := 365) (M' := m_BB_ball) (As := [.int (gXs g ((x3 + (1 : Int32))).toNatClampNeg), .int (gXs g ((x3 + (2 : Int32))).toNatClampNeg)]) (st := []) (mc' := 0) (ms' := 0) lk_LW_41 rfl sx_0 rfl (by decide) (by decide) rfl (Nat.le_of_ble_eq_true rfl) (by decide) (by decide) d_LW_law_365 h ?_
      rintro _ _ s31 ⟨r32, rfl, rfl, h⟩ -
      show Ax g m_LW_law 600000 7302250 lw_Z SH s31 199 156995 368 [(0, .ref (gXb g)), (1, .ref (gB g + 0)), (2, .ref (gB g + 151)), (3, .int x3)] [.int r32]
      refine a_aload_n (pc := 368) 2 rfl rfl d_LW_law_368 ?_
      refine a_aload_n (pc := 369) 0 rfl rfl d_LW_law_369 ?_
      refine a_iload_n (pc := 370) 3 rfl rfl d_LW_law_370 ?_
      refine a_iconst (pc := 371) (1 : Int32) (by decide) d_LW_law_371 ?_
      refine a_iadd (pc := 372) d_LW_law_372 ?_
      obtain ⟨hx, h⟩ := h
      refine a_scld (pc := 373) hx d_LW_law_373 ?_
      refine a_aload_n (pc := 374) 0 rfl rfl d_LW_law_374 ?_
      refine a_iload_n (pc := 375) 3 rfl rfl d_LW_law_375 ?_
      refine a_iconst (pc := 376) (2 : Int32) (by decide) d_LW_law_376 ?_
      refine a_iadd (pc := 377) d_LW_law_377 ?_
      obtain ⟨hx, h⟩ := h
      refine a_scld (pc := 378) hx d_LW_law_378 ?_
      refine a_callV (pc := 379) (M' := m_BM_ball) (As := [.int (gXs g ((x3 + (1 : Int32))).toNatClampNeg), .int (gXs g ((x3 + (2 : Int32))).toNatClampNeg)]) (st := [.int r32]) (mc' := 0) (ms' := 0) lk_LW_45 rfl sx_151 rfl (by decide) (by decide) rfl (Nat.le_of_ble_eq_true rfl) (by decide) (by decide) d_LW_law_379 h ?_
      rintro _ _ s33 ⟨r34, rfl, rfl, h⟩ -
      show Ax g m_LW_law 600000 7302250 lw_Z SH s33 199 156995 382 [(0, .ref (gXb g)), (1, .ref (gB g + 0)), (2, .ref (gB g + 151)), (3, .int x3)] [.int r34, .int r32]
      refine a_icmp_eq (pc := 382) 1070 (by decide) d_LW_law_382 ⟨fun c0 => ?_, fun c0 => ?_⟩
      · replace h := h.1 c0
        obtain ⟨u35, hu35⟩ : ∃ y : Int32, y = x3 + (6 : Int32) := ⟨_, rfl⟩
        replace h := h u35 hu35
        refine a_iinc (pc := 1070) (v := u35) (lv' := [(3, .int u35), (0, .ref (gXb g)), (1, .ref (gB g + 0)), (2, .ref (gB g + 151))]) 3 rfl (by rw [hu35]; rfl) (Nat.le_of_ble_eq_true rfl) rfl d_LW_law_1070 ?_
        refine a_goto (pc := 1073) 18 (by decide) d_LW_law_1073 ?_
        refine a_sub (pc := 18) [1, 2, 3, 0] rfl ?_
        exact h
      · replace h := h.2 c0
        refine a_iconst (pc := 385) (0 : Int32) (by decide) d_LW_law_385 ?_
        exact h.elim
    replace h := h.2
    by_cases c7 : ((gXs g (x3).toNatClampNeg) &&& (31 : Int32)) = (7 : Int32)
    · replace h := h.1 c7
      refine a_tableIn (pc := 33) 387 (off := 354) (by rw [c7]; decide) (by rw [c7]; decide) (by rw [c7]; rfl) (by decide) d_LW_law_33 ?_
      refine a_aload_n (pc := 387) 1 rfl rfl d_LW_law_387 ?_
      refine a_aload_n (pc := 388) 0 rfl rfl d_LW_law_388 ?_
      refine a_iload_n (pc := 389) 3 rfl rfl d_LW_law_389 ?_
      refine a_iconst (pc := 390) (1 : Int32) (by decide) d_LW_law_390 ?_
      refine a_iadd (pc := 391) d_LW_law_391 ?_
      obtain ⟨hx, h⟩ := h
      refine a_scld (pc := 392) hx d_LW_law_392 ?_
      refine a_aload_n (pc := 393) 0 rfl rfl d_LW_law_393 ?_
      refine a_iload_n (pc := 394) 3 rfl rfl d_LW_law_394 ?_
      refine a_iconst (pc := 395) (2 : Int32) (by decide) d_LW_law_395 ?_
      refine a_iadd (pc := 396) d_LW_law_396 ?_
      obtain ⟨hx, h⟩ := h
      refine a_scld (pc := 397) hx d_LW_law_397 ?_
      refine a_aload_n (pc := 398) 0 rfl rfl d_LW_law_398 ?_
      refine a_iload_n (pc := 399) 3 rfl rfl d_LW_law_399 ?_
      refine a_iconst (pc := 400) (3 : Int32) (by decide) d_LW_law_400 ?_
      refine a_iadd (pc := 401) d_LW_law_401 ?_
      obtain ⟨hx, h⟩ := h
      refine a_scld (pc := 402) hx d_LW_law_402 ?_
      refine a_callV (pc := 403) (M' := m_BB_put) (As := [.int (gXs g ((x3 + (1 : Int32))).toNatClampNeg), .int (gXs g ((x3 + (2 : Int32))).toNatClampNeg), .int (gXs g ((x3 + (3 : Int32))).toNatClampNeg)]) (st := []) (mc' := 0) (ms' := 0) lk_LW_46 rfl sx_0 rfl (by decide) (by decide) rfl (Nat.le_of_ble_eq_true rfl) (by decide) (by decide) d_LW_law_403 h ?_
      rintro _ _ s36 ⟨r37, rfl, rfl, h⟩ -
      show Ax g m_LW_law 600000 7302250 lw_Z SH s36 199 156995 406 [(0, .ref (gXb g)), (1, .ref (gB g + 0)), (2, .ref (gB g + 151)), (3, .int x3)] [.int r37]
      refine a_aload_n (pc := 406) 2 rfl rfl d_LW_law_406 ?_
      refine a_aload_n (pc := 407) 0 rfl rfl d_LW_law_407 ?_
      refine a_iload_n (pc := 408) 3 rfl rfl d_LW_law_408 ?_
      refine a_iconst (pc := 409) (1 : Int32) (by decide) d_LW_law_409 ?_
      refine a_iadd (pc := 410) d_LW_law_410 ?_
      obtain ⟨hx, h⟩ := h
      refine a_scld (pc := 411) hx d_LW_law_411 ?_
      refine a_aload_n (pc := 412) 0 rfl rfl d_LW_law_412 ?_
      refine a_iload_n (pc := 413) 3 rfl rfl d_LW_law_413 ?_
      refine a_iconst (pc := 414) (2 : Int32) (by decide) d_LW_law_414 ?_
      refine a_iadd (pc := 415) d_LW_law_415 ?_
      obtain ⟨hx, h⟩ := h
      refine a_scld (pc := 416) hx d_LW_law_416 ?_
      refine a_aload_n (pc := 417) 0 rfl rfl d_LW_law_417 ?_
      refine a_iload_n (pc := 418) 3 rfl rfl d_LW_law_418 ?_
      refine a_iconst (pc := 419) (3 : Int32) (by decide) d_LW_law_419 ?_
      refine a_iadd (pc := 420) d_LW_law_420 ?_
      obtain ⟨hx, h⟩ := h
      refine a_scld (pc := 421) hx d_LW_law_421 ?_
      refine a_callV (pc := 422) (M' := m_BM_put) (As := [.int (gXs g ((x3 + (1 : Int32))).toNatClampNeg), .int (gXs g ((x3 + (2 : Int32))).toNatClampNeg), .int (gXs g ((x3 + (3 : Int32))).toNatClampNeg)]) (st := [.int r37]) (mc' := 0) (ms' := 0) lk_LW_50 rfl sx_151 rfl (by decide) (by decide) rfl (Nat.le_of_ble_eq_true rfl) (by decide) (by decide) d_LW_law_422 h ?_
      rintro _ _ s38 ⟨r39, rfl, rfl, h⟩ -
      show Ax g m_LW_law 600000 7302250 lw_Z SH s38 199 156995 425 [(0, .ref (gXb g)), (1, .ref (gB g + 0)), (2, .ref (gB g + 151)), (3, .int x3)] [.int r39, .int r37]
      refine a_icmp_eq (pc := 425) 1070 (by decide) d_LW_law_425 ⟨fun c0 => ?_, fun c0 => ?_⟩
      · replace h := h.1 c0
        obtain ⟨u40, hu40⟩ : ∃ y : Int32, y = x3 + (6 : Int32) := ⟨_, rfl⟩
        replace h := h u40 hu40
        refine a_iinc (pc := 1070) (v := u40) (lv' := [(3, .int u40), (0, .ref (gXb g)), (1, .ref (gB g + 0)), (2, .ref (gB g + 151))]) 3 rfl (by rw [hu40]; rfl) (Nat.le_of_ble_eq_true rfl) rfl d_LW_law_1070 ?_
        refine a_goto (pc := 1073) 18 (by decide) d_LW_law_1073 ?_
        refine a_sub (pc := 18) [1, 2, 3, 0] rfl ?_
        exact h
      · replace h := h.2 c0
        refine a_iconst (pc := 428) (0 : Int32) (by decide) d_LW_law_428 ?_
        exact h.elim
    replace h := h.2
    by_cases c8 : ((gXs g (x3).toNatClampNeg) &&& (31 : Int32)) = (8 : Int32)
    · replace h := h.1 c8
      refine a_tableIn (pc := 33) 430 (off := 397) (by rw [c8]; decide) (by rw [c8]; decide) (by rw [c8]; rfl) (by decide) d_LW_law_33 ?_
      refine a_aload_n (pc := 430) 1 rfl rfl d_LW_law_430 ?_
      refine a_aload_n (pc := 431) 0 rfl rfl d_LW_law_431 ?_
      refine a_iload_n (pc := 432) 3 rfl rfl d_LW_law_432 ?_
      refine a_iconst (pc := 433) (1 : Int32) (by decide) d_LW_law_433 ?_
      refine a_iadd (pc := 434) d_LW_law_434 ?_
      obtain ⟨hx, h⟩ := h
      refine a_scld (pc := 435) hx d_LW_law_435 ?_
      refine a_aload_n (pc := 436) 0 rfl rfl d_LW_law_436 ?_
      refine a_iload_n (pc := 437) 3 rfl rfl d_LW_law_437 ?_
      refine a_iconst (pc := 438) (2 : Int32) (by decide) d_LW_law_438 ?_
      refine a_iadd (pc := 439) d_LW_law_439 ?_
      obtain ⟨hx, h⟩ := h
      refine a_scld (pc := 440) hx d_LW_law_440 ?_
      refine a_aload_n (pc := 441) 0 rfl rfl d_LW_law_441 ?_
      refine a_iload_n (pc := 442) 3 rfl rfl d_LW_law_442 ?_
      refine a_iconst (pc := 443) (3 : Int32) (by decide) d_LW_law_443 ?_
      refine a_iadd (pc := 444) d_LW_law_444 ?_
      obtain ⟨hx, h⟩ := h
      refine a_scld (pc := 445) hx d_LW_law_445 ?_
      refine a_if_eq (pc := 446) 453 (by decide) d_LW_law_446 ⟨fun c0 => ?_, fun c0 => ?_⟩
      · replace h := h.1 c0
        refine a_iconst (pc := 453) (0 : Int32) (by decide) d_LW_law_453 ?_
        refine a_callV (pc := 454) (M' := m_BB_wall) (As := [.int (gXs g ((x3 + (1 : Int32))).toNatClampNeg), .int (gXs g ((x3 + (2 : Int32))).toNatClampNeg), .int (0 : Int32)]) (st := []) (mc' := 0) (ms' := 0) lk_LW_51 rfl sx_0 rfl (by decide) (by decide) rfl (Nat.le_of_ble_eq_true rfl) (by decide) (by decide) d_LW_law_454 h ?_
        rintro _ _ s41 ⟨r42, rfl, rfl, h⟩ -
        show Ax g m_LW_law 600000 7302250 lw_Z SH s41 199 156995 457 [(0, .ref (gXb g)), (1, .ref (gB g + 0)), (2, .ref (gB g + 151)), (3, .int x3)] [.int r42]
        refine a_aload_n (pc := 457) 2 rfl rfl d_LW_law_457 ?_
        refine a_aload_n (pc := 458) 0 rfl rfl d_LW_law_458 ?_
        refine a_iload_n (pc := 459) 3 rfl rfl d_LW_law_459 ?_
        refine a_iconst (pc := 460) (1 : Int32) (by decide) d_LW_law_460 ?_
        refine a_iadd (pc := 461) d_LW_law_461 ?_
        obtain ⟨hx, h⟩ := h
        refine a_scld (pc := 462) hx d_LW_law_462 ?_
        refine a_aload_n (pc := 463) 0 rfl rfl d_LW_law_463 ?_
        refine a_iload_n (pc := 464) 3 rfl rfl d_LW_law_464 ?_
        refine a_iconst (pc := 465) (2 : Int32) (by decide) d_LW_law_465 ?_
        refine a_iadd (pc := 466) d_LW_law_466 ?_
        obtain ⟨hx, h⟩ := h
        refine a_scld (pc := 467) hx d_LW_law_467 ?_
        refine a_aload_n (pc := 468) 0 rfl rfl d_LW_law_468 ?_
        refine a_iload_n (pc := 469) 3 rfl rfl d_LW_law_469 ?_
        refine a_iconst (pc := 470) (3 : Int32) (by decide) d_LW_law_470 ?_
        refine a_iadd (pc := 471) d_LW_law_471 ?_
        obtain ⟨hx, h⟩ := h
        refine a_scld (pc := 472) hx d_LW_law_472 ?_
        refine a_if_eq (pc := 473) 480 (by decide) d_LW_law_473 ⟨fun c0 => ?_, fun c0 => ?_⟩
        · replace h := h.1 c0
          refine a_iconst (pc := 480) (0 : Int32) (by decide) d_LW_law_480 ?_
          refine a_callV (pc := 481) (M' := m_BM_wall) (As := [.int (gXs g ((x3 + (1 : Int32))).toNatClampNeg), .int (gXs g ((x3 + (2 : Int32))).toNatClampNeg), .int (0 : Int32)]) (st := [.int r42]) (mc' := 0) (ms' := 0) lk_LW_55 rfl sx_151 rfl (by decide) (by decide) rfl (Nat.le_of_ble_eq_true rfl) (by decide) (by decide) d_LW_law_481 h ?_
          rintro _ _ s43 ⟨r44, rfl, rfl, h⟩ -
          show Ax g m_LW_law 600000 7302250 lw_Z SH s43 199 156995 484 [(0, .ref (gXb g)), (1, .ref (gB g + 0)), (2, .ref (gB g + 151)), (3, .int x3)] [.int r44, .int r42]
          refine a_icmp_eq (pc := 484) 1070 (by decide) d_LW_law_484 ⟨fun c0 => ?_, fun c0 => ?_⟩
          · replace h := h.1 c0
            obtain ⟨u45, hu45⟩ : ∃ y : Int32, y = x3 + (6 : Int32) := ⟨_, rfl⟩
            replace h := h u45 hu45
            refine a_iinc (pc := 1070) (v := u45) (lv' := [(3, .int u45), (0, .ref (gXb g)), (1, .ref (gB g + 0)), (2, .ref (gB g + 151))]) 3 rfl (by rw [hu45]; rfl) (Nat.le_of_ble_eq_true rfl) rfl d_LW_law_1070 ?_
            refine a_goto (pc := 1073) 18 (by decide) d_LW_law_1073 ?_
            refine a_sub (pc := 18) [1, 2, 3, 0] rfl ?_
            exact h
          · replace h := h.2 c0
            refine a_iconst (pc := 487) (0 : Int32) (by decide) d_LW_law_487 ?_
            exact h.elim
        · replace h := h.2 c0
          refine a_iconst (pc := 476) (1 : Int32) (by decide) d_LW_law_476 ?_
          refine a_goto (pc := 477) 481 (by decide) d_LW_law_477 ?_
          refine a_callV (pc := 481) (M' := m_BM_wall) (As := [.int (gXs g ((x3 + (1 : Int32))).toNatClampNeg), .int (gXs g ((x3 + (2 : Int32))).toNatClampNeg), .int (1 : Int32)]) (st := [.int r42]) (mc' := 0) (ms' := 0) lk_LW_55 rfl sx_151 rfl (by decide) (by decide) rfl (Nat.le_of_ble_eq_true rfl) (by decide) (by decide) d_LW_law_481 h ?_
          rintro _ _ s46 ⟨r47, rfl, rfl, h⟩ -
          show Ax g m_LW_law 600000 7302250 lw_Z SH s46 199 156995 484 [(0, .ref (gXb g)), (1, .ref (gB g + 0)), (2, .ref (gB g + 151)), (3, .int x3)] [.int r47, .int r42]
          refine a_icmp_eq (pc := 484) 1070 (by decide) d_LW_law_484 ⟨fun c0 => ?_, fun c0 => ?_⟩
          · replace h := h.1 c0
            obtain ⟨u48, hu48⟩ : ∃ y : Int32, y = x3 + (6 : Int32) := ⟨_, rfl⟩
            replace h := h u48 hu48
            refine a_iinc (pc := 1070) (v := u48) (lv' := [(3, .int u48), (0, .ref (gXb g)), (1, .ref (gB g + 0)), (2, .ref (gB g + 151))]) 3 rfl (by rw [hu48]; rfl) (Nat.le_of_ble_eq_true rfl) rfl d_LW_law_1070 ?_
            refine a_goto (pc := 1073) 18 (by decide) d_LW_law_1073 ?_
            refine a_sub (pc := 18) [1, 2, 3, 0] rfl ?_
            exact h
          · replace h := h.2 c0
            refine a_iconst (pc := 487) (0 : Int32) (by decide) d_LW_law_487 ?_
            exact h.elim
      · replace h := h.2 c0
        refine a_iconst (pc := 449) (1 : Int32) (by decide) d_LW_law_449 ?_
        refine a_goto (pc := 450) 454 (by decide) d_LW_law_450 ?_
        refine a_callV (pc := 454) (M' := m_BB_wall) (As := [.int (gXs g ((x3 + (1 : Int32))).toNatClampNeg), .int (gXs g ((x3 + (2 : Int32))).toNatClampNeg), .int (1 : Int32)]) (st := []) (mc' := 0) (ms' := 0) lk_LW_51 rfl sx_0 rfl (by decide) (by decide) rfl (Nat.le_of_ble_eq_true rfl) (by decide) (by decide) d_LW_law_454 h ?_
        rintro _ _ s49 ⟨r50, rfl, rfl, h⟩ -
        show Ax g m_LW_law 600000 7302250 lw_Z SH s49 199 156995 457 [(0, .ref (gXb g)), (1, .ref (gB g + 0)), (2, .ref (gB g + 151)), (3, .int x3)] [.int r50]
        refine a_aload_n (pc := 457) 2 rfl rfl d_LW_law_457 ?_
        refine a_aload_n (pc := 458) 0 rfl rfl d_LW_law_458 ?_
        refine a_iload_n (pc := 459) 3 rfl rfl d_LW_law_459 ?_
        refine a_iconst (pc := 460) (1 : Int32) (by decide) d_LW_law_460 ?_
        refine a_iadd (pc := 461) d_LW_law_461 ?_
        obtain ⟨hx, h⟩ := h
        refine a_scld (pc := 462) hx d_LW_law_462 ?_
        refine a_aload_n (pc := 463) 0 rfl rfl d_LW_law_463 ?_
        refine a_iload_n (pc := 464) 3 rfl rfl d_LW_law_464 ?_
        refine a_iconst (pc := 465) (2 : Int32) (by decide) d_LW_law_465 ?_
        refine a_iadd (pc := 466) d_LW_law_466 ?_
        obtain ⟨hx, h⟩ := h
        refine a_scld (pc := 467) hx d_LW_law_467 ?_
        refine a_aload_n (pc := 468) 0 rfl rfl d_LW_law_468 ?_
        refine a_iload_n (pc := 469) 3 rfl rfl d_LW_law_469 ?_
        refine a_iconst (pc := 470) (3 : Int32) (by decide) d_LW_law_470 ?_
        refine a_iadd (pc := 471) d_LW_law_471 ?_
        obtain ⟨hx, h⟩ := h
        refine a_scld (pc := 472) hx d_LW_law_472 ?_
        refine a_if_eq (pc := 473) 480 (by decide) d_LW_law_473 ⟨fun c0 => ?_, fun c0 => ?_⟩
        · replace h := h.1 c0
          refine a_iconst (pc := 480) (0 : Int32) (by decide) d_LW_law_480 ?_
          refine a_callV (pc := 481) (M' := m_BM_wall) (As := [.int (gXs g ((x3 + (1 : Int32))).toNatClampNeg), .int (gXs g ((x3 + (2 : Int32))).toNatClampNeg), .int (0 : Int32)]) (st := [.int r50]) (mc' := 0) (ms' := 0) lk_LW_55 rfl sx_151 rfl (by decide) (by decide) rfl (Nat.le_of_ble_eq_true rfl) (by decide) (by decide) d_LW_law_481 h ?_
          rintro _ _ s51 ⟨r52, rfl, rfl, h⟩ -
          show Ax g m_LW_law 600000 7302250 lw_Z SH s51 199 156995 484 [(0, .ref (gXb g)), (1, .ref (gB g + 0)), (2, .ref (gB g + 151)), (3, .int x3)] [.int r52, .int r50]
          refine a_icmp_eq (pc := 484) 1070 (by decide) d_LW_law_484 ⟨fun c0 => ?_, fun c0 => ?_⟩
          · replace h := h.1 c0
            obtain ⟨u53, hu53⟩ : ∃ y : Int32, y = x3 + (6 : Int32) := ⟨_, rfl⟩
            replace h := h u53 hu53
            refine a_iinc (pc := 1070) (v := u53) (lv' := [(3, .int u53), (0, .ref (gXb g)), (1, .ref (gB g + 0)), (2, .ref (gB g + 151))]) 3 rfl (by rw [hu53]; rfl) (Nat.le_of_ble_eq_true rfl) rfl d_LW_law_1070 ?_
            refine a_goto (pc := 1073) 18 (by decide) d_LW_law_1073 ?_
            refine a_sub (pc := 18) [1, 2, 3, 0] rfl ?_
            exact h
          · replace h := h.2 c0
            refine a_iconst (pc := 487) (0 : Int32) (by decide) d_LW_law_487 ?_
            exact h.elim
        · replace h := h.2 c0
          refine a_iconst (pc := 476) (1 : Int32) (by decide) d_LW_law_476 ?_
          refine a_goto (pc := 477) 481 (by decide) d_LW_law_477 ?_
          refine a_callV (pc := 481) (M' := m_BM_wall) (As := [.int (gXs g ((x3 + (1 : Int32))).toNatClampNeg), .int (gXs g ((x3 + (2 : Int32))).toNatClampNeg), .int (1 : Int32)]) (st := [.int r50]) (mc' := 0) (ms' := 0) lk_LW_55 rfl sx_151 rfl (by decide) (by decide) rfl (Nat.le_of_ble_eq_true rfl) (by decide) (by decide) d_LW_law_481 h ?_
          rintro _ _ s54 ⟨r55, rfl, rfl, h⟩ -
          show Ax g m_LW_law 600000 7302250 lw_Z SH s54 199 156995 484 [(0, .ref (gXb g)), (1, .ref (gB g + 0)), (2, .ref (gB g + 151)), (3, .int x3)] [.int r55, .int r50]
          refine a_icmp_eq (pc := 484) 1070 (by decide) d_LW_law_484 ⟨fun c0 => ?_, fun c0 => ?_⟩
          · replace h := h.1 c0
            obtain ⟨u56, hu56⟩ : ∃ y : Int32, y = x3 + (6 : Int32) := ⟨_, rfl⟩
            replace h := h u56 hu56
            refine a_iinc (pc := 1070) (v := u56) (lv' := [(3, .int u56), (0, .ref (gXb g)), (1, .ref (gB g + 0)), (2, .ref (gB g + 151))]) 3 rfl (by rw [hu56]; rfl) (Nat.le_of_ble_eq_true rfl) rfl d_LW_law_1070 ?_
            refine a_goto (pc := 1073) 18 (by decide) d_LW_law_1073 ?_
            refine a_sub (pc := 18) [1, 2, 3, 0] rfl ?_
            exact h
          · replace h := h.2 c0
            refine a_iconst (pc := 487) (0 : Int32) (by decide) d_LW_law_487 ?_
            exact h.elim
    replace h := h.2
    by_cases c9 : ((gXs g (x3).toNatClampNeg) &&& (31 : Int32)) = (9 : Int32)
    · replace h := h.1 c9
      refine a_tableIn (pc := 33) 489 (off := 456) (by rw [c9]; decide) (by rw [c9]; decide) (by rw [c9]; rfl) (by decide) d_LW_law_33 ?_
      refine a_aload_n (pc := 489) 1 rfl rfl d_LW_law_489 ?_
      refine a_aload_n (pc := 490) 0 rfl rfl d_LW_law_490 ?_
      refine a_iload_n (pc := 491) 3 rfl rfl d_LW_law_491 ?_
      refine a_iconst (pc := 492) (1 : Int32) (by decide) d_LW_law_492 ?_
      refine a_iadd (pc := 493) d_LW_law_493 ?_
      obtain ⟨hx, h⟩ := h
      refine a_scld (pc := 494) hx d_LW_law_494 ?_
      refine a_callV (pc := 495) (M' := m_BB_tip) (As := [.int (gXs g ((x3 + (1 : Int32))).toNatClampNeg)]) (st := []) (mc' := 0) (ms' := 0) lk_LW_56 rfl sx_0 rfl (by decide) (by decide) rfl (Nat.le_of_ble_eq_true rfl) (by decide) (by decide) d_LW_law_495 h ?_
      rintro _ _ s57 ⟨r58, rfl, rfl, h⟩ -
      show Ax g m_LW_law 600000 7302250 lw_Z SH s57 199 156995 498 [(0, .ref (gXb g)), (1, .ref (gB g + 0)), (2, .ref (gB g + 151)), (3, .int x3)] [.int r58]
      refine a_aload_n (pc := 498) 2 rfl rfl d_LW_law_498 ?_
      refine a_aload_n (pc := 499) 0 rfl rfl d_LW_law_499 ?_
      refine a_iload_n (pc := 500) 3 rfl rfl d_LW_law_500 ?_
      refine a_iconst (pc := 501) (1 : Int32) (by decide) d_LW_law_501 ?_
      refine a_iadd (pc := 502) d_LW_law_502 ?_
      obtain ⟨hx, h⟩ := h
      refine a_scld (pc := 503) hx d_LW_law_503 ?_
      refine a_callV (pc := 504) (M' := m_BM_tip) (As := [.int (gXs g ((x3 + (1 : Int32))).toNatClampNeg)]) (st := [.int r58]) (mc' := 0) (ms' := 0) lk_LW_59 rfl sx_151 rfl (by decide) (by decide) rfl (Nat.le_of_ble_eq_true rfl) (by decide) (by decide) d_LW_law_504 h ?_
      rintro _ _ s59 ⟨r60, rfl, rfl, h⟩ -
      show Ax g m_LW_law 600000 7302250 lw_Z SH s59 199 156995 507 [(0, .ref (gXb g)), (1, .ref (gB g + 0)), (2, .ref (gB g + 151)), (3, .int x3)] [.int r60, .int r58]
      refine a_icmp_eq (pc := 507) 1070 (by decide) d_LW_law_507 ⟨fun c0 => ?_, fun c0 => ?_⟩
      · replace h := h.1 c0
        obtain ⟨u61, hu61⟩ : ∃ y : Int32, y = x3 + (6 : Int32) := ⟨_, rfl⟩
        replace h := h u61 hu61
        refine a_iinc (pc := 1070) (v := u61) (lv' := [(3, .int u61), (0, .ref (gXb g)), (1, .ref (gB g + 0)), (2, .ref (gB g + 151))]) 3 rfl (by rw [hu61]; rfl) (Nat.le_of_ble_eq_true rfl) rfl d_LW_law_1070 ?_
        refine a_goto (pc := 1073) 18 (by decide) d_LW_law_1073 ?_
        refine a_sub (pc := 18) [1, 2, 3, 0] rfl ?_
        exact h
      · replace h := h.2 c0
        refine a_iconst (pc := 510) (0 : Int32) (by decide) d_LW_law_510 ?_
        exact h.elim
    replace h := h.2
    by_cases c10 : ((gXs g (x3).toNatClampNeg) &&& (31 : Int32)) = (10 : Int32)
    · replace h := h.1 c10
      refine a_tableIn (pc := 33) 512 (off := 479) (by rw [c10]; decide) (by rw [c10]; decide) (by rw [c10]; rfl) (by decide) d_LW_law_33 ?_
      refine a_aload_n (pc := 512) 1 rfl rfl d_LW_law_512 ?_
      refine a_aload_n (pc := 513) 0 rfl rfl d_LW_law_513 ?_
      refine a_iload_n (pc := 514) 3 rfl rfl d_LW_law_514 ?_
      refine a_iconst (pc := 515) (1 : Int32) (by decide) d_LW_law_515 ?_
      refine a_iadd (pc := 516) d_LW_law_516 ?_
      obtain ⟨hx, h⟩ := h
      refine a_scld (pc := 517) hx d_LW_law_517 ?_
      refine a_callV (pc := 518) (M' := m_BB_may) (As := [.int (gXs g ((x3 + (1 : Int32))).toNatClampNeg)]) (st := []) (mc' := 0) (ms' := 0) lk_LW_60 rfl sx_0 rfl (by decide) (by decide) rfl (Nat.le_of_ble_eq_true rfl) (by decide) (by decide) d_LW_law_518 h ?_
      rintro _ _ s62 ⟨r63, rfl, rfl, h⟩ -
      show Ax g m_LW_law 600000 7302250 lw_Z SH s62 199 156995 521 [(0, .ref (gXb g)), (1, .ref (gB g + 0)), (2, .ref (gB g + 151)), (3, .int x3)] [.int r63]
      refine a_aload_n (pc := 521) 2 rfl rfl d_LW_law_521 ?_
      refine a_aload_n (pc := 522) 0 rfl rfl d_LW_law_522 ?_
      refine a_iload_n (pc := 523) 3 rfl rfl d_LW_law_523 ?_
      refine a_iconst (pc := 524) (1 : Int32) (by decide) d_LW_law_524 ?_
      refine a_iadd (pc := 525) d_LW_law_525 ?_
      obtain ⟨hx, h⟩ := h
      refine a_scld (pc := 526) hx d_LW_law_526 ?_
      refine a_callV (pc := 527) (M' := m_BM_may) (As := [.int (gXs g ((x3 + (1 : Int32))).toNatClampNeg)]) (st := [.int r63]) (mc' := 0) (ms' := 0) lk_LW_63 rfl sx_151 rfl (by decide) (by decide) rfl (Nat.le_of_ble_eq_true rfl) (by decide) (by decide) d_LW_law_527 h ?_
      rintro _ _ s64 ⟨r65, rfl, rfl, h⟩ -
      show Ax g m_LW_law 600000 7302250 lw_Z SH s64 199 156995 530 [(0, .ref (gXb g)), (1, .ref (gB g + 0)), (2, .ref (gB g + 151)), (3, .int x3)] [.int r65, .int r63]
      refine a_icmp_eq (pc := 530) 1070 (by decide) d_LW_law_530 ⟨fun c0 => ?_, fun c0 => ?_⟩
      · replace h := h.1 c0
        obtain ⟨u66, hu66⟩ : ∃ y : Int32, y = x3 + (6 : Int32) := ⟨_, rfl⟩
        replace h := h u66 hu66
        refine a_iinc (pc := 1070) (v := u66) (lv' := [(3, .int u66), (0, .ref (gXb g)), (1, .ref (gB g + 0)), (2, .ref (gB g + 151))]) 3 rfl (by rw [hu66]; rfl) (Nat.le_of_ble_eq_true rfl) rfl d_LW_law_1070 ?_
        refine a_goto (pc := 1073) 18 (by decide) d_LW_law_1073 ?_
        refine a_sub (pc := 18) [1, 2, 3, 0] rfl ?_
        exact h
      · replace h := h.2 c0
        refine a_iconst (pc := 533) (0 : Int32) (by decide) d_LW_law_533 ?_
        exact h.elim
    replace h := h.2
    by_cases c11 : ((gXs g (x3).toNatClampNeg) &&& (31 : Int32)) = (11 : Int32)
    · replace h := h.1 c11
      refine a_tableIn (pc := 33) 535 (off := 502) (by rw [c11]; decide) (by rw [c11]; decide) (by rw [c11]; rfl) (by decide) d_LW_law_33 ?_
      refine a_aload_n (pc := 535) 1 rfl rfl d_LW_law_535 ?_
      refine a_aload_n (pc := 536) 0 rfl rfl d_LW_law_536 ?_
      refine a_iload_n (pc := 537) 3 rfl rfl d_LW_law_537 ?_
      refine a_iconst (pc := 538) (1 : Int32) (by decide) d_LW_law_538 ?_
      refine a_iadd (pc := 539) d_LW_law_539 ?_
      obtain ⟨hx, h⟩ := h
      refine a_scld (pc := 540) hx d_LW_law_540 ?_
      refine a_callV (pc := 541) (M' := m_BB_press) (As := [.int (gXs g ((x3 + (1 : Int32))).toNatClampNeg)]) (st := []) (mc' := 0) (ms' := 0) lk_LW_64 rfl sx_0 rfl (by decide) (by decide) rfl (Nat.le_of_ble_eq_true rfl) (by decide) (by decide) d_LW_law_541 h ?_
      rintro _ _ s67 ⟨r68, rfl, rfl, h⟩ -
      show Ax g m_LW_law 600000 7302250 lw_Z SH s67 199 156995 544 [(0, .ref (gXb g)), (1, .ref (gB g + 0)), (2, .ref (gB g + 151)), (3, .int x3)] [.int r68]
      refine a_aload_n (pc := 544) 2 rfl rfl d_LW_law_544 ?_
      refine a_aload_n (pc := 545) 0 rfl rfl d_LW_law_545 ?_
      refine a_iload_n (pc := 546) 3 rfl rfl d_LW_law_546 ?_
      refine a_iconst (pc := 547) (1 : Int32) (by decide) d_LW_law_547 ?_
      refine a_iadd (pc := 548) d_LW_law_548 ?_
      obtain ⟨hx, h⟩ := h
      refine a_scld (pc := 549) hx d_LW_law_549 ?_
      refine a_callV (pc := 550) (M' := m_BM_press) (As := [.int (gXs g ((x3 + (1 : Int32))).toNatClampNeg)]) (st := [.int r68]) (mc' := 0) (ms' := 0) lk_LW_67 rfl sx_151 rfl (by decide) (by decide) rfl (Nat.le_of_ble_eq_true rfl) (by decide) (by decide) d_LW_law_550 h ?_
      rintro _ _ s69 ⟨r70, rfl, rfl, h⟩ -
      show Ax g m_LW_law 600000 7302250 lw_Z SH s69 199 156995 553 [(0, .ref (gXb g)), (1, .ref (gB g + 0)), (2, .ref (gB g + 151)), (3, .int x3)] [.int r70, .int r68]
      refine a_icmp_eq (pc := 553) 1070 (by decide) d_LW_law_553 ⟨fun c0 => ?_, fun c0 => ?_⟩
      · replace h := h.1 c0
        obtain ⟨u71, hu71⟩ : ∃ y : Int32, y = x3 + (6 : Int32) := ⟨_, rfl⟩
        replace h := h u71 hu71
        refine a_iinc (pc := 1070) (v := u71) (lv' := [(3, .int u71), (0, .ref (gXb g)), (1, .ref (gB g + 0)), (2, .ref (gB g + 151))]) 3 rfl (by rw [hu71]; rfl) (Nat.le_of_ble_eq_true rfl) rfl d_LW_law_1070 ?_
        refine a_goto (pc := 1073) 18 (by decide) d_LW_law_1073 ?_
        refine a_sub (pc := 18) [1, 2, 3, 0] rfl ?_
        exact h
      · replace h := h.2 c0
        refine a_iconst (pc := 556) (0 : Int32) (by decide) d_LW_law_556 ?_
        exact h.elim
    replace h := h.2
    by_cases c12 : ((gXs g (x3).toNatClampNeg) &&& (31 : Int32)) = (12 : Int32)
    · replace h := h.1 c12
      refine a_tableIn (pc := 33) 558 (off := 525) (by rw [c12]; decide) (by rw [c12]; decide) (by rw [c12]; rfl) (by decide) d_LW_law_33 ?_
      refine a_aload_n (pc := 558) 1 rfl rfl d_LW_law_558 ?_
      refine a_aload_n (pc := 559) 0 rfl rfl d_LW_law_559 ?_
      refine a_iload_n (pc := 560) 3 rfl rfl d_LW_law_560 ?_
      refine a_iconst (pc := 561) (1 : Int32) (by decide) d_LW_law_561 ?_
      refine a_iadd (pc := 562) d_LW_law_562 ?_
      obtain ⟨hx, h⟩ := h
      refine a_scld (pc := 563) hx d_LW_law_563 ?_
      refine a_callV (pc := 564) (M' := m_BB_would) (As := [.int (gXs g ((x3 + (1 : Int32))).toNatClampNeg)]) (st := []) (mc' := 0) (ms' := 0) lk_LW_68 rfl sx_0 rfl (by decide) (by decide) rfl (Nat.le_of_ble_eq_true rfl) (by decide) (by decide) d_LW_law_564 h ?_
      rintro _ _ s72 ⟨r73, rfl, rfl, h⟩ -
      show Ax g m_LW_law 600000 7302250 lw_Z SH s72 199 156995 567 [(0, .ref (gXb g)), (1, .ref (gB g + 0)), (2, .ref (gB g + 151)), (3, .int x3)] [.int r73]
      refine a_aload_n (pc := 567) 2 rfl rfl d_LW_law_567 ?_
      refine a_aload_n (pc := 568) 0 rfl rfl d_LW_law_568 ?_
      refine a_iload_n (pc := 569) 3 rfl rfl d_LW_law_569 ?_
      refine a_iconst (pc := 570) (1 : Int32) (by decide) d_LW_law_570 ?_
      refine a_iadd (pc := 571) d_LW_law_571 ?_
      obtain ⟨hx, h⟩ := h
      refine a_scld (pc := 572) hx d_LW_law_572 ?_
      refine a_callV (pc := 573) (M' := m_BM_would) (As := [.int (gXs g ((x3 + (1 : Int32))).toNatClampNeg)]) (st := [.int r73]) (mc' := 0) (ms' := 0) lk_LW_71 rfl sx_151 rfl (by decide) (by decide) rfl (Nat.le_of_ble_eq_true rfl) (by decide) (by decide) d_LW_law_573 h ?_
      rintro _ _ s74 ⟨r75, rfl, rfl, h⟩ -
      show Ax g m_LW_law 600000 7302250 lw_Z SH s74 199 156995 576 [(0, .ref (gXb g)), (1, .ref (gB g + 0)), (2, .ref (gB g + 151)), (3, .int x3)] [.int r75, .int r73]
      refine a_icmp_eq (pc := 576) 1070 (by decide) d_LW_law_576 ⟨fun c0 => ?_, fun c0 => ?_⟩
      · replace h := h.1 c0
        obtain ⟨u76, hu76⟩ : ∃ y : Int32, y = x3 + (6 : Int32) := ⟨_, rfl⟩
        replace h := h u76 hu76
        refine a_iinc (pc := 1070) (v := u76) (lv' := [(3, .int u76), (0, .ref (gXb g)), (1, .ref (gB g + 0)), (2, .ref (gB g + 151))]) 3 rfl (by rw [hu76]; rfl) (Nat.le_of_ble_eq_true rfl) rfl d_LW_law_1070 ?_
        refine a_goto (pc := 1073) 18 (by decide) d_LW_law_1073 ?_
        refine a_sub (pc := 18) [1, 2, 3, 0] rfl ?_
        exact h
      · replace h := h.2 c0
        refine a_iconst (pc := 579) (0 : Int32) (by decide) d_LW_law_579 ?_
        exact h.elim
    replace h := h.2
    by_cases c13 : ((gXs g (x3).toNatClampNeg) &&& (31 : Int32)) = (13 : Int32)
    · replace h := h.1 c13
      refine a_tableIn (pc := 33) 581 (off := 548) (by rw [c13]; decide) (by rw [c13]; decide) (by rw [c13]; rfl) (by decide) d_LW_law_33 ?_
      refine a_aload_n (pc := 581) 1 rfl rfl d_LW_law_581 ?_
      refine a_aload_n (pc := 582) 0 rfl rfl d_LW_law_582 ?_
      refine a_iload_n (pc := 583) 3 rfl rfl d_LW_law_583 ?_
      refine a_iconst (pc := 584) (1 : Int32) (by decide) d_LW_law_584 ?_
      refine a_iadd (pc := 585) d_LW_law_585 ?_
      obtain ⟨hx, h⟩ := h
      refine a_scld (pc := 586) hx d_LW_law_586 ?_
      refine a_aload_n (pc := 587) 0 rfl rfl d_LW_law_587 ?_
      refine a_iload_n (pc := 588) 3 rfl rfl d_LW_law_588 ?_
      refine a_iconst (pc := 589) (2 : Int32) (by decide) d_LW_law_589 ?_
      refine a_iadd (pc := 590) d_LW_law_590 ?_
      obtain ⟨hx, h⟩ := h
      refine a_scld (pc := 591) hx d_LW_law_591 ?_
      refine a_callV (pc := 592) (M' := m_BB_sure) (As := [.int (gXs g ((x3 + (1 : Int32))).toNatClampNeg), .int (gXs g ((x3 + (2 : Int32))).toNatClampNeg)]) (st := []) (mc' := 0) (ms' := 0) lk_LW_72 rfl sx_0 rfl (by decide) (by decide) rfl (Nat.le_of_ble_eq_true rfl) (by decide) (by decide) d_LW_law_592 h ?_
      rintro _ _ s77 ⟨r78, rfl, rfl, h⟩ -
      show Ax g m_LW_law 600000 7302250 lw_Z SH s77 199 156995 595 [(0, .ref (gXb g)), (1, .ref (gB g + 0)), (2, .ref (gB g + 151)), (3, .int x3)] [.long r78]
      refine a_aload_n (pc := 595) 2 rfl rfl d_LW_law_595 ?_
      refine a_aload_n (pc := 596) 0 rfl rfl d_LW_law_596 ?_
      refine a_iload_n (pc := 597) 3 rfl rfl d_LW_law_597 ?_
      refine a_iconst (pc := 598) (1 : Int32) (by decide) d_LW_law_598 ?_
      refine a_iadd (pc := 599) d_LW_law_599 ?_
      obtain ⟨hx, h⟩ := h
      refine a_scld (pc := 600) hx d_LW_law_600 ?_
      refine a_aload_n (pc := 601) 0 rfl rfl d_LW_law_601 ?_
      refine a_iload_n (pc := 602) 3 rfl rfl d_LW_law_602 ?_
      refine a_iconst (pc := 603) (2 : Int32) (by decide) d_LW_law_603 ?_
      refine a_iadd (pc := 604) d_LW_law_604 ?_
      obtain ⟨hx, h⟩ := h
      refine a_scld (pc := 605) hx d_LW_law_605 ?_
      refine a_callV (pc := 606) (M' := m_BM_sure) (As := [.int (gXs g ((x3 + (1 : Int32))).toNatClampNeg), .int (gXs g ((x3 + (2 : Int32))).toNatClampNeg)]) (st := [.long r78]) (mc' := 0) (ms' := 0) lk_LW_76 rfl sx_151 rfl (by decide) (by decide) rfl (Nat.le_of_ble_eq_true rfl) (by decide) (by decide) d_LW_law_606 h ?_
      rintro _ _ s79 ⟨r80, rfl, rfl, h⟩ -
      show Ax g m_LW_law 600000 7302250 lw_Z SH s79 199 156995 609 [(0, .ref (gXb g)), (1, .ref (gB g + 0)), (2, .ref (gB g + 151)), (3, .int x3)] [.long r80, .long r78]
      refine a_lcmp (pc := 609) d_LW_law_609 ?_
      refine a_if_eq (pc := 610) 1070 (by decide) d_LW_law_610 ⟨fun c0 => ?_, fun c0 => ?_⟩
      · replace h := h.1 c0
        obtain ⟨u81, hu81⟩ : ∃ y : Int32, y = x3 + (6 : Int32) := ⟨_, rfl⟩
        replace h := h u81 hu81
        refine a_iinc (pc := 1070) (v := u81) (lv' := [(3, .int u81), (0, .ref (gXb g)), (1, .ref (gB g + 0)), (2, .ref (gB g + 151))]) 3 rfl (by rw [hu81]; rfl) (Nat.le_of_ble_eq_true rfl) rfl d_LW_law_1070 ?_
        refine a_goto (pc := 1073) 18 (by decide) d_LW_law_1073 ?_
        refine a_sub (pc := 18) [1, 2, 3, 0] rfl ?_
        exact h
      · replace h := h.2 c0
        refine a_iconst (pc := 613) (0 : Int32) (by decide) d_LW_law_613 ?_
        exact h.elim
    replace h := h.2
    by_cases c14 : ((gXs g (x3).toNatClampNeg) &&& (31 : Int32)) = (14 : Int32)
    · replace h := h.1 c14
      refine a_tableIn (pc := 33) 615 (off := 582) (by rw [c14]; decide) (by rw [c14]; decide) (by rw [c14]; rfl) (by decide) d_LW_law_33 ?_
      refine a_aload_n (pc := 615) 1 rfl rfl d_LW_law_615 ?_
      refine a_callV (pc := 616) (M' := m_BB_fewest) (As := []) (st := []) (mc' := 0) (ms' := 0) lk_LW_77 rfl sx_0 rfl (by decide) (by decide) rfl (Nat.le_of_ble_eq_true rfl) (by decide) (by decide) d_LW_law_616 h ?_
      rintro _ _ s82 ⟨r83, rfl, rfl, h⟩ -
      show Ax g m_LW_law 600000 7302250 lw_Z SH s82 199 156995 619 [(0, .ref (gXb g)), (1, .ref (gB g + 0)), (2, .ref (gB g + 151)), (3, .int x3)] [.int r83]
      refine a_aload_n (pc := 619) 2 rfl rfl d_LW_law_619 ?_
      refine a_callV (pc := 620) (M' := m_BM_fewest) (As := []) (st := [.int r83]) (mc' := 0) (ms' := 0) lk_LW_80 rfl sx_151 rfl (by decide) (by decide) rfl (Nat.le_of_ble_eq_true rfl) (by decide) (by decide) d_LW_law_620 h ?_
      rintro _ _ s84 ⟨r85, rfl, rfl, h⟩ -
      show Ax g m_LW_law 600000 7302250 lw_Z SH s84 199 156995 623 [(0, .ref (gXb g)), (1, .ref (gB g + 0)), (2, .ref (gB g + 151)), (3, .int x3)] [.int r85, .int r83]
      refine a_icmp_eq (pc := 623) 1070 (by decide) d_LW_law_623 ⟨fun c0 => ?_, fun c0 => ?_⟩
      · replace h := h.1 c0
        obtain ⟨u86, hu86⟩ : ∃ y : Int32, y = x3 + (6 : Int32) := ⟨_, rfl⟩
        replace h := h u86 hu86
        refine a_iinc (pc := 1070) (v := u86) (lv' := [(3, .int u86), (0, .ref (gXb g)), (1, .ref (gB g + 0)), (2, .ref (gB g + 151))]) 3 rfl (by rw [hu86]; rfl) (Nat.le_of_ble_eq_true rfl) rfl d_LW_law_1070 ?_
        refine a_goto (pc := 1073) 18 (by decide) d_LW_law_1073 ?_
        refine a_sub (pc := 18) [1, 2, 3, 0] rfl ?_
        exact h
      · replace h := h.2 c0
        refine a_iconst (pc := 626) (0 : Int32) (by decide) d_LW_law_626 ?_
        exact h.elim
    replace h := h.2
    by_cases c15 : ((gXs g (x3).toNatClampNeg) &&& (31 : Int32)) = (15 : Int32)
    · replace h := h.1 c15
      refine a_tableIn (pc := 33) 628 (off := 595) (by rw [c15]; decide) (by rw [c15]; decide) (by rw [c15]; rfl) (by decide) d_LW_law_33 ?_
      refine a_aload_n (pc := 628) 1 rfl rfl d_LW_law_628 ?_
      refine a_aload_n (pc := 629) 0 rfl rfl d_LW_law_629 ?_
      refine a_iload_n (pc := 630) 3 rfl rfl d_LW_law_630 ?_
      refine a_iconst (pc := 631) (1 : Int32) (by decide) d_LW_law_631 ?_
      refine a_iadd (pc := 632) d_LW_law_632 ?_
      obtain ⟨hx, h⟩ := h
      refine a_scld (pc := 633) hx d_LW_law_633 ?_
      refine a_callV (pc := 634) (M' := m_BB_path) (As := [.int (gXs g ((x3 + (1 : Int32))).toNatClampNeg)]) (st := []) (mc' := 0) (ms' := 0) lk_LW_81 rfl sx_0 rfl (by decide) (by decide) rfl (Nat.le_of_ble_eq_true rfl) (by decide) (by decide) d_LW_law_634 h ?_
      rintro _ _ s87 ⟨r88, rfl, rfl, h⟩ -
      show Ax g m_LW_law 600000 7302250 lw_Z SH s87 199 156995 637 [(0, .ref (gXb g)), (1, .ref (gB g + 0)), (2, .ref (gB g + 151)), (3, .int x3)] [.int r88]
      refine a_aload_n (pc := 637) 2 rfl rfl d_LW_law_637 ?_
      refine a_aload_n (pc := 638) 0 rfl rfl d_LW_law_638 ?_
      refine a_iload_n (pc := 639) 3 rfl rfl d_LW_law_639 ?_
      refine a_iconst (pc := 640) (1 : Int32) (by decide) d_LW_law_640 ?_
      refine a_iadd (pc := 641) d_LW_law_641 ?_
      obtain ⟨hx, h⟩ := h
      refine a_scld (pc := 642) hx d_LW_law_642 ?_
      refine a_callV (pc := 643) (M' := m_BM_path) (As := [.int (gXs g ((x3 + (1 : Int32))).toNatClampNeg)]) (st := [.int r88]) (mc' := 0) (ms' := 0) lk_LW_84 rfl sx_151 rfl (by decide) (by decide) rfl (Nat.le_of_ble_eq_true rfl) (by decide) (by decide) d_LW_law_643 h ?_
      rintro _ _ s89 ⟨r90, rfl, rfl, h⟩ -
      show Ax g m_LW_law 600000 7302250 lw_Z SH s89 199 156995 646 [(0, .ref (gXb g)), (1, .ref (gB g + 0)), (2, .ref (gB g + 151)), (3, .int x3)] [.int r90, .int r88]
      refine a_icmp_eq (pc := 646) 1070 (by decide) d_LW_law_646 ⟨fun c0 => ?_, fun c0 => ?_⟩
      · replace h := h.1 c0
        obtain ⟨u91, hu91⟩ : ∃ y : Int32, y = x3 + (6 : Int32) := ⟨_, rfl⟩
        replace h := h u91 hu91
        refine a_iinc (pc := 1070) (v := u91) (lv' := [(3, .int u91), (0, .ref (gXb g)), (1, .ref (gB g + 0)), (2, .ref (gB g + 151))]) 3 rfl (by rw [hu91]; rfl) (Nat.le_of_ble_eq_true rfl) rfl d_LW_law_1070 ?_
        refine a_goto (pc := 1073) 18 (by decide) d_LW_law_1073 ?_
        refine a_sub (pc := 18) [1, 2, 3, 0] rfl ?_
        exact h
      · replace h := h.2 c0
        refine a_iconst (pc := 649) (0 : Int32) (by decide) d_LW_law_649 ?_
        exact h.elim
    replace h := h.2
    by_cases c16 : ((gXs g (x3).toNatClampNeg) &&& (31 : Int32)) = (16 : Int32)
    · replace h := h.1 c16
      refine a_tableIn (pc := 33) 651 (off := 618) (by rw [c16]; decide) (by rw [c16]; decide) (by rw [c16]; rfl) (by decide) d_LW_law_33 ?_
      refine a_aload_n (pc := 651) 1 rfl rfl d_LW_law_651 ?_
      refine a_aload_n (pc := 652) 0 rfl rfl d_LW_law_652 ?_
      refine a_iload_n (pc := 653) 3 rfl rfl d_LW_law_653 ?_
      refine a_iconst (pc := 654) (1 : Int32) (by decide) d_LW_law_654 ?_
      refine a_iadd (pc := 655) d_LW_law_655 ?_
      obtain ⟨hx, h⟩ := h
      refine a_scld (pc := 656) hx d_LW_law_656 ?_
      refine a_aload_n (pc := 657) 0 rfl rfl d_LW_law_657 ?_
      refine a_iload_n (pc := 658) 3 rfl rfl d_LW_law_658 ?_
      refine a_iconst (pc := 659) (2 : Int32) (by decide) d_LW_law_659 ?_
      refine a_iadd (pc := 660) d_LW_law_660 ?_
      obtain ⟨hx, h⟩ := h
      refine a_scld (pc := 661) hx d_LW_law_661 ?_
      refine a_callV (pc := 662) (M' := m_BB_blind) (As := [.int (gXs g ((x3 + (1 : Int32))).toNatClampNeg), .int (gXs g ((x3 + (2 : Int32))).toNatClampNeg)]) (st := []) (mc' := 0) (ms' := 0) lk_LW_85 rfl sx_0 rfl (by decide) (by decide) rfl (Nat.le_of_ble_eq_true rfl) (by decide) (by decide) d_LW_law_662 h ?_
      rintro _ _ s92 ⟨r93, rfl, rfl, h⟩ -
      show Ax g m_LW_law 600000 7302250 lw_Z SH s92 199 156995 665 [(0, .ref (gXb g)), (1, .ref (gB g + 0)), (2, .ref (gB g + 151)), (3, .int x3)] [.int r93]
      refine a_aload_n (pc := 665) 2 rfl rfl d_LW_law_665 ?_
      refine a_aload_n (pc := 666) 0 rfl rfl d_LW_law_666 ?_
      refine a_iload_n (pc := 667) 3 rfl rfl d_LW_law_667 ?_
      refine a_iconst (pc := 668) (1 : Int32) (by decide) d_LW_law_668 ?_
      refine a_iadd (pc := 669) d_LW_law_669 ?_
      obtain ⟨hx, h⟩ := h
      refine a_scld (pc := 670) hx d_LW_law_670 ?_
      refine a_aload_n (pc := 671) 0 rfl rfl d_LW_law_671 ?_
      refine a_iload_n (pc := 672) 3 rfl rfl d_LW_law_672 ?_
      refine a_iconst (pc := 673) (2 : Int32) (by decide) d_LW_law_673 ?_
      refine a_iadd (pc := 674) d_LW_law_674 ?_
      obtain ⟨hx, h⟩ := h
      refine a_scld (pc := 675) hx d_LW_law_675 ?_
      refine a_callV (pc := 676) (M' := m_BM_blind) (As := [.int (gXs g ((x3 + (1 : Int32))).toNatClampNeg), .int (gXs g ((x3 + (2 : Int32))).toNatClampNeg)]) (st := [.int r93]) (mc' := 0) (ms' := 0) lk_LW_88 rfl sx_151 rfl (by decide) (by decide) rfl (Nat.le_of_ble_eq_true rfl) (by decide) (by decide) d_LW_law_676 h ?_
      rintro _ _ s94 ⟨r95, rfl, rfl, h⟩ -
      show Ax g m_LW_law 600000 7302250 lw_Z SH s94 199 156995 679 [(0, .ref (gXb g)), (1, .ref (gB g + 0)), (2, .ref (gB g + 151)), (3, .int x3)] [.int r95, .int r93]
      refine a_icmp_eq (pc := 679) 1070 (by decide) d_LW_law_679 ⟨fun c0 => ?_, fun c0 => ?_⟩
      · replace h := h.1 c0
        obtain ⟨u96, hu96⟩ : ∃ y : Int32, y = x3 + (6 : Int32) := ⟨_, rfl⟩
        replace h := h u96 hu96
        refine a_iinc (pc := 1070) (v := u96) (lv' := [(3, .int u96), (0, .ref (gXb g)), (1, .ref (gB g + 0)), (2, .ref (gB g + 151))]) 3 rfl (by rw [hu96]; rfl) (Nat.le_of_ble_eq_true rfl) rfl d_LW_law_1070 ?_
        refine a_goto (pc := 1073) 18 (by decide) d_LW_law_1073 ?_
        refine a_sub (pc := 18) [1, 2, 3, 0] rfl ?_
        exact h
      · replace h := h.2 c0
        refine a_iconst (pc := 682) (0 : Int32) (by decide) d_LW_law_682 ?_
        exact h.elim
    replace h := h.2
    by_cases c17 : ((gXs g (x3).toNatClampNeg) &&& (31 : Int32)) = (17 : Int32)
    · replace h := h.1 c17
      refine a_tableIn (pc := 33) 684 (off := 651) (by rw [c17]; decide) (by rw [c17]; decide) (by rw [c17]; rfl) (by decide) d_LW_law_33 ?_
      refine a_aload_n (pc := 684) 1 rfl rfl d_LW_law_684 ?_
      refine a_aload_n (pc := 685) 0 rfl rfl d_LW_law_685 ?_
      refine a_iload_n (pc := 686) 3 rfl rfl d_LW_law_686 ?_
      refine a_iconst (pc := 687) (1 : Int32) (by decide) d_LW_law_687 ?_
      refine a_iadd (pc := 688) d_LW_law_688 ?_
      obtain ⟨hx, h⟩ := h
      refine a_scld (pc := 689) hx d_LW_law_689 ?_
      refine a_callV (pc := 690) (M' := m_BB_chipped) (As := [.int (gXs g ((x3 + (1 : Int32))).toNatClampNeg)]) (st := []) (mc' := 0) (ms' := 0) lk_LW_89 rfl sx_0 rfl (by decide) (by decide) rfl (Nat.le_of_ble_eq_true rfl) (by decide) (by decide) d_LW_law_690 h ?_
      rintro _ _ s97 ⟨r98, rfl, rfl, h⟩ -
      show Ax g m_LW_law 600000 7302250 lw_Z SH s97 199 156995 693 [(0, .ref (gXb g)), (1, .ref (gB g + 0)), (2, .ref (gB g + 151)), (3, .int x3)] [.int r98]
      refine a_aload_n (pc := 693) 2 rfl rfl d_LW_law_693 ?_
      refine a_aload_n (pc := 694) 0 rfl rfl d_LW_law_694 ?_
      refine a_iload_n (pc := 695) 3 rfl rfl d_LW_law_695 ?_
      refine a_iconst (pc := 696) (1 : Int32) (by decide) d_LW_law_696 ?_
      refine a_iadd (pc := 697) d_LW_law_697 ?_
      obtain ⟨hx, h⟩ := h
      refine a_scld (pc := 698) hx d_LW_law_698 ?_
      refine a_callV (pc := 699) (M' := m_BM_chipped) (As := [.int (gXs g ((x3 + (1 : Int32))).toNatClampNeg)]) (st := [.int r98]) (mc' := 0) (ms' := 0) lk_LW_92 rfl sx_151 rfl (by decide) (by decide) rfl (Nat.le_of_ble_eq_true rfl) (by decide) (by decide) d_LW_law_699 h ?_
      rintro _ _ s99 ⟨r100, rfl, rfl, h⟩ -
      show Ax g m_LW_law 600000 7302250 lw_Z SH s99 199 156995 702 [(0, .ref (gXb g)), (1, .ref (gB g + 0)), (2, .ref (gB g + 151)), (3, .int x3)] [.int r100, .int r98]
      refine a_icmp_eq (pc := 702) 1070 (by decide) d_LW_law_702 ⟨fun c0 => ?_, fun c0 => ?_⟩
      · replace h := h.1 c0
        obtain ⟨u101, hu101⟩ : ∃ y : Int32, y = x3 + (6 : Int32) := ⟨_, rfl⟩
        replace h := h u101 hu101
        refine a_iinc (pc := 1070) (v := u101) (lv' := [(3, .int u101), (0, .ref (gXb g)), (1, .ref (gB g + 0)), (2, .ref (gB g + 151))]) 3 rfl (by rw [hu101]; rfl) (Nat.le_of_ble_eq_true rfl) rfl d_LW_law_1070 ?_
        refine a_goto (pc := 1073) 18 (by decide) d_LW_law_1073 ?_
        refine a_sub (pc := 18) [1, 2, 3, 0] rfl ?_
        exact h
      · replace h := h.2 c0
        refine a_iconst (pc := 705) (0 : Int32) (by decide) d_LW_law_705 ?_
        exact h.elim
    replace h := h.2
    by_cases c18 : ((gXs g (x3).toNatClampNeg) &&& (31 : Int32)) = (18 : Int32)
    · replace h := h.1 c18
      refine a_tableIn (pc := 33) 707 (off := 674) (by rw [c18]; decide) (by rw [c18]; decide) (by rw [c18]; rfl) (by decide) d_LW_law_33 ?_
      refine a_aload_n (pc := 707) 1 rfl rfl d_LW_law_707 ?_
      refine a_aload_n (pc := 708) 0 rfl rfl d_LW_law_708 ?_
      refine a_iload_n (pc := 709) 3 rfl rfl d_LW_law_709 ?_
      refine a_iconst (pc := 710) (1 : Int32) (by decide) d_LW_law_710 ?_
      refine a_iadd (pc := 711) d_LW_law_711 ?_
      obtain ⟨hx, h⟩ := h
      refine a_scld (pc := 712) hx d_LW_law_712 ?_
      refine a_callV (pc := 713) (M' := m_BB_walled) (As := [.int (gXs g ((x3 + (1 : Int32))).toNatClampNeg)]) (st := []) (mc' := 0) (ms' := 0) lk_LW_93 rfl sx_0 rfl (by decide) (by decide) rfl (Nat.le_of_ble_eq_true rfl) (by decide) (by decide) d_LW_law_713 h ?_
      rintro _ _ s102 ⟨r103, rfl, rfl, h⟩ -
      show Ax g m_LW_law 600000 7302250 lw_Z SH s102 199 156995 716 [(0, .ref (gXb g)), (1, .ref (gB g + 0)), (2, .ref (gB g + 151)), (3, .int x3)] [.int r103]
      refine a_aload_n (pc := 716) 2 rfl rfl d_LW_law_716 ?_
      refine a_aload_n (pc := 717) 0 rfl rfl d_LW_law_717 ?_
      refine a_iload_n (pc := 718) 3 rfl rfl d_LW_law_718 ?_
      refine a_iconst (pc := 719) (1 : Int32) (by decide) d_LW_law_719 ?_
      refine a_iadd (pc := 720) d_LW_law_720 ?_
      obtain ⟨hx, h⟩ := h
      refine a_scld (pc := 721) hx d_LW_law_721 ?_
      refine a_callV (pc := 722) (M' := m_BM_walled) (As := [.int (gXs g ((x3 + (1 : Int32))).toNatClampNeg)]) (st := [.int r103]) (mc' := 0) (ms' := 0) lk_LW_96 rfl sx_151 rfl (by decide) (by decide) rfl (Nat.le_of_ble_eq_true rfl) (by decide) (by decide) d_LW_law_722 h ?_
      rintro _ _ s104 ⟨r105, rfl, rfl, h⟩ -
      show Ax g m_LW_law 600000 7302250 lw_Z SH s104 199 156995 725 [(0, .ref (gXb g)), (1, .ref (gB g + 0)), (2, .ref (gB g + 151)), (3, .int x3)] [.int r105, .int r103]
      refine a_icmp_eq (pc := 725) 1070 (by decide) d_LW_law_725 ⟨fun c0 => ?_, fun c0 => ?_⟩
      · replace h := h.1 c0
        obtain ⟨u106, hu106⟩ : ∃ y : Int32, y = x3 + (6 : Int32) := ⟨_, rfl⟩
        replace h := h u106 hu106
        refine a_iinc (pc := 1070) (v := u106) (lv' := [(3, .int u106), (0, .ref (gXb g)), (1, .ref (gB g + 0)), (2, .ref (gB g + 151))]) 3 rfl (by rw [hu106]; rfl) (Nat.le_of_ble_eq_true rfl) rfl d_LW_law_1070 ?_
        refine a_goto (pc := 1073) 18 (by decide) d_LW_law_1073 ?_
        refine a_sub (pc := 18) [1, 2, 3, 0] rfl ?_
        exact h
      · replace h := h.2 c0
        refine a_iconst (pc := 728) (0 : Int32) (by decide) d_LW_law_728 ?_
        exact h.elim
    replace h := h.2
    by_cases c19 : ((gXs g (x3).toNatClampNeg) &&& (31 : Int32)) = (19 : Int32)
    · replace h := h.1 c19
      refine a_tableIn (pc := 33) 730 (off := 697) (by rw [c19]; decide) (by rw [c19]; decide) (by rw [c19]; rfl) (by decide) d_LW_law_33 ?_
      refine a_aload_n (pc := 730) 1 rfl rfl d_LW_law_730 ?_
      refine a_aload_n (pc := 731) 0 rfl rfl d_LW_law_731 ?_
      refine a_iload_n (pc := 732) 3 rfl rfl d_LW_law_732 ?_
      refine a_iconst (pc := 733) (1 : Int32) (by decide) d_LW_law_733 ?_
      refine a_iadd (pc := 734) d_LW_law_734 ?_
      obtain ⟨hx, h⟩ := h
      refine a_scld (pc := 735) hx d_LW_law_735 ?_
      refine a_callV (pc := 736) (M' := m_BB_hardest) (As := [.int (gXs g ((x3 + (1 : Int32))).toNatClampNeg)]) (st := []) (mc' := 0) (ms' := 0) lk_LW_97 rfl sx_0 rfl (by decide) (by decide) rfl (Nat.le_of_ble_eq_true rfl) (by decide) (by decide) d_LW_law_736 h ?_
      rintro _ _ s107 ⟨r108, rfl, rfl, h⟩ -
      show Ax g m_LW_law 600000 7302250 lw_Z SH s107 199 156995 739 [(0, .ref (gXb g)), (1, .ref (gB g + 0)), (2, .ref (gB g + 151)), (3, .int x3)] [.int r108]
      refine a_aload_n (pc := 739) 2 rfl rfl d_LW_law_739 ?_
      refine a_aload_n (pc := 740) 0 rfl rfl d_LW_law_740 ?_
      refine a_iload_n (pc := 741) 3 rfl rfl d_LW_law_741 ?_
      refine a_iconst (pc := 742) (1 : Int32) (by decide) d_LW_law_742 ?_
      refine a_iadd (pc := 743) d_LW_law_743 ?_
      obtain ⟨hx, h⟩ := h
      refine a_scld (pc := 744) hx d_LW_law_744 ?_
      refine a_callV (pc := 745) (M' := m_BM_hardest) (As := [.int (gXs g ((x3 + (1 : Int32))).toNatClampNeg)]) (st := [.int r108]) (mc' := 0) (ms' := 0) lk_LW_100 rfl sx_151 rfl (by decide) (by decide) rfl (Nat.le_of_ble_eq_true rfl) (by decide) (by decide) d_LW_law_745 h ?_
      rintro _ _ s109 ⟨r110, rfl, rfl, h⟩ -
      show Ax g m_LW_law 600000 7302250 lw_Z SH s109 199 156995 748 [(0, .ref (gXb g)), (1, .ref (gB g + 0)), (2, .ref (gB g + 151)), (3, .int x3)] [.int r110, .int r108]
      refine a_icmp_eq (pc := 748) 1070 (by decide) d_LW_law_748 ⟨fun c0 => ?_, fun c0 => ?_⟩
      · replace h := h.1 c0
        obtain ⟨u111, hu111⟩ : ∃ y : Int32, y = x3 + (6 : Int32) := ⟨_, rfl⟩
        replace h := h u111 hu111
        refine a_iinc (pc := 1070) (v := u111) (lv' := [(3, .int u111), (0, .ref (gXb g)), (1, .ref (gB g + 0)), (2, .ref (gB g + 151))]) 3 rfl (by rw [hu111]; rfl) (Nat.le_of_ble_eq_true rfl) rfl d_LW_law_1070 ?_
        refine a_goto (pc := 1073) 18 (by decide) d_LW_law_1073 ?_
        refine a_sub (pc := 18) [1, 2, 3, 0] rfl ?_
        exact h
      · replace h := h.2 c0
        refine a_iconst (pc := 751) (0 : Int32) (by decide) d_LW_law_751 ?_
        exact h.elim
    replace h := h.2
    by_cases c20 : ((gXs g (x3).toNatClampNeg) &&& (31 : Int32)) = (20 : Int32)
    · replace h := h.1 c20
      refine a_tableIn (pc := 33) 753 (off := 720) (by rw [c20]; decide) (by rw [c20]; decide) (by rw [c20]; rfl) (by decide) d_LW_law_33 ?_
      refine a_aload_n (pc := 753) 1 rfl rfl d_LW_law_753 ?_
      refine a_aload_n (pc := 754) 0 rfl rfl d_LW_law_754 ?_
      refine a_iload_n (pc := 755) 3 rfl rfl d_LW_law_755 ?_
      refine a_iconst (pc := 756) (1 : Int32) (by decide) d_LW_law_756 ?_
      refine a_iadd (pc := 757) d_LW_law_757 ?_
      obtain ⟨hx, h⟩ := h
      refine a_scld (pc := 758) hx d_LW_law_758 ?_
      refine a_aload_n (pc := 759) 0 rfl rfl d_LW_law_759 ?_
      refine a_iload_n (pc := 760) 3 rfl rfl d_LW_law_760 ?_
      refine a_iconst (pc := 761) (2 : Int32) (by decide) d_LW_law_761 ?_
      refine a_iadd (pc := 762) d_LW_law_762 ?_
      obtain ⟨hx, h⟩ := h
      refine a_scld (pc := 763) hx d_LW_law_763 ?_
      refine a_aload_n (pc := 764) 0 rfl rfl d_LW_law_764 ?_
      refine a_iload_n (pc := 765) 3 rfl rfl d_LW_law_765 ?_
      refine a_iconst (pc := 766) (3 : Int32) (by decide) d_LW_law_766 ?_
      refine a_iadd (pc := 767) d_LW_law_767 ?_
      obtain ⟨hx, h⟩ := h
      refine a_scld (pc := 768) hx d_LW_law_768 ?_
      refine a_callV (pc := 769) (M' := m_BB_sound) (As := [.int (gXs g ((x3 + (1 : Int32))).toNatClampNeg), .int (gXs g ((x3 + (2 : Int32))).toNatClampNeg), .int (gXs g ((x3 + (3 : Int32))).toNatClampNeg)]) (st := []) (mc' := 0) (ms' := 0) lk_LW_101 rfl sx_0 rfl (by decide) (by decide) rfl (Nat.le_of_ble_eq_true rfl) (by decide) (by decide) d_LW_law_769 h ?_
      rintro _ _ s112 ⟨r113, rfl, rfl, h⟩ -
      show Ax g m_LW_law 600000 7302250 lw_Z SH s112 199 156995 772 [(0, .ref (gXb g)), (1, .ref (gB g + 0)), (2, .ref (gB g + 151)), (3, .int x3)] [.int r113]
      refine a_aload_n (pc := 772) 2 rfl rfl d_LW_law_772 ?_
      refine a_aload_n (pc := 773) 0 rfl rfl d_LW_law_773 ?_
      refine a_iload_n (pc := 774) 3 rfl rfl d_LW_law_774 ?_
      refine a_iconst (pc := 775) (1 : Int32) (by decide) d_LW_law_775 ?_
      refine a_iadd (pc := 776) d_LW_law_776 ?_
      obtain ⟨hx, h⟩ := h
      refine a_scld (pc := 777) hx d_LW_law_777 ?_
      refine a_aload_n (pc := 778) 0 rfl rfl d_LW_law_778 ?_
      refine a_iload_n (pc := 779) 3 rfl rfl d_LW_law_779 ?_
      refine a_iconst (pc := 780) (2 : Int32) (by decide) d_LW_law_780 ?_
      refine a_iadd (pc := 781) d_LW_law_781 ?_
      obtain ⟨hx, h⟩ := h
      refine a_scld (pc := 782) hx d_LW_law_782 ?_
      refine a_aload_n (pc := 783) 0 rfl rfl d_LW_law_783 ?_
      refine a_iload_n (pc := 784) 3 rfl rfl d_LW_law_784 ?_
      refine a_iconst (pc := 785) (3 : Int32) (by decide) d_LW_law_785 ?_
      refine a_iadd (pc := 786) d_LW_law_786 ?_
      obtain ⟨hx, h⟩ := h
      refine a_scld (pc := 787) hx d_LW_law_787 ?_
      refine a_callV (pc := 788) (M' := m_BM_sound) (As := [.int (gXs g ((x3 + (1 : Int32))).toNatClampNeg), .int (gXs g ((x3 + (2 : Int32))).toNatClampNeg), .int (gXs g ((x3 + (3 : Int32))).toNatClampNeg)]) (st := [.int r113]) (mc' := 0) (ms' := 0) lk_LW_104 rfl sx_151 rfl (by decide) (by decide) rfl (Nat.le_of_ble_eq_true rfl) (by decide) (by decide) d_LW_law_788 h ?_
      rintro _ _ s114 ⟨r115, rfl, rfl, h⟩ -
      show Ax g m_LW_law 600000 7302250 lw_Z SH s114 199 156995 791 [(0, .ref (gXb g)), (1, .ref (gB g + 0)), (2, .ref (gB g + 151)), (3, .int x3)] [.int r115, .int r113]
      refine a_icmp_eq (pc := 791) 1070 (by decide) d_LW_law_791 ⟨fun c0 => ?_, fun c0 => ?_⟩
      · replace h := h.1 c0
        obtain ⟨u116, hu116⟩ : ∃ y : Int32, y = x3 + (6 : Int32) := ⟨_, rfl⟩
        replace h := h u116 hu116
        refine a_iinc (pc := 1070) (v := u116) (lv' := [(3, .int u116), (0, .ref (gXb g)), (1, .ref (gB g + 0)), (2, .ref (gB g + 151))]) 3 rfl (by rw [hu116]; rfl) (Nat.le_of_ble_eq_true rfl) rfl d_LW_law_1070 ?_
        refine a_goto (pc := 1073) 18 (by decide) d_LW_law_1073 ?_
        refine a_sub (pc := 18) [1, 2, 3, 0] rfl ?_
        exact h
      · replace h := h.2 c0
        refine a_iconst (pc := 794) (0 : Int32) (by decide) d_LW_law_794 ?_
        exact h.elim
    replace h := h.2
    by_cases c21 : ((gXs g (x3).toNatClampNeg) &&& (31 : Int32)) = (21 : Int32)
    · replace h := h.1 c21
      refine a_tableIn (pc := 33) 796 (off := 763) (by rw [c21]; decide) (by rw [c21]; decide) (by rw [c21]; rfl) (by decide) d_LW_law_33 ?_
      refine a_aload_n (pc := 796) 1 rfl rfl d_LW_law_796 ?_
      refine a_aload_n (pc := 797) 0 rfl rfl d_LW_law_797 ?_
      refine a_iload_n (pc := 798) 3 rfl rfl d_LW_law_798 ?_
      refine a_iconst (pc := 799) (1 : Int32) (by decide) d_LW_law_799 ?_
      refine a_iadd (pc := 800) d_LW_law_800 ?_
      obtain ⟨hx, h⟩ := h
      refine a_scld (pc := 801) hx d_LW_law_801 ?_
      refine a_callV (pc := 802) (M' := m_BB_fits) (As := [.int (gXs g ((x3 + (1 : Int32))).toNatClampNeg)]) (st := []) (mc' := 0) (ms' := 0) lk_LW_105 rfl sx_0 rfl (by decide) (by decide) rfl (Nat.le_of_ble_eq_true rfl) (by decide) (by decide) d_LW_law_802 h ?_
      rintro _ _ s117 ⟨r118, rfl, rfl, h⟩ -
      show Ax g m_LW_law 600000 7302250 lw_Z SH s117 199 156995 805 [(0, .ref (gXb g)), (1, .ref (gB g + 0)), (2, .ref (gB g + 151)), (3, .int x3)] [.int r118]
      refine a_aload_n (pc := 805) 2 rfl rfl d_LW_law_805 ?_
      refine a_aload_n (pc := 806) 0 rfl rfl d_LW_law_806 ?_
      refine a_iload_n (pc := 807) 3 rfl rfl d_LW_law_807 ?_
      refine a_iconst (pc := 808) (1 : Int32) (by decide) d_LW_law_808 ?_
      refine a_iadd (pc := 809) d_LW_law_809 ?_
      obtain ⟨hx, h⟩ := h
      refine a_scld (pc := 810) hx d_LW_law_810 ?_
      refine a_callV (pc := 811) (M' := m_BM_fits) (As := [.int (gXs g ((x3 + (1 : Int32))).toNatClampNeg)]) (st := [.int r118]) (mc' := 0) (ms' := 0) lk_LW_108 rfl sx_151 rfl (by decide) (by decide) rfl (Nat.le_of_ble_eq_true rfl) (by decide) (by decide) d_LW_law_811 h ?_
      rintro _ _ s119 ⟨r120, rfl, rfl, h⟩ -
      show Ax g m_LW_law 600000 7302250 lw_Z SH s119 199 156995 814 [(0, .ref (gXb g)), (1, .ref (gB g + 0)), (2, .ref (gB g + 151)), (3, .int x3)] [.int r120, .int r118]
      refine a_icmp_eq (pc := 814) 1070 (by decide) d_LW_law_814 ⟨fun c0 => ?_, fun c0 => ?_⟩
      · replace h := h.1 c0
        obtain ⟨u121, hu121⟩ : ∃ y : Int32, y = x3 + (6 : Int32) := ⟨_, rfl⟩
        replace h := h u121 hu121
        refine a_iinc (pc := 1070) (v := u121) (lv' := [(3, .int u121), (0, .ref (gXb g)), (1, .ref (gB g + 0)), (2, .ref (gB g + 151))]) 3 rfl (by rw [hu121]; rfl) (Nat.le_of_ble_eq_true rfl) rfl d_LW_law_1070 ?_
        refine a_goto (pc := 1073) 18 (by decide) d_LW_law_1073 ?_
        refine a_sub (pc := 18) [1, 2, 3, 0] rfl ?_
        exact h
      · replace h := h.2 c0
        refine a_iconst (pc := 817) (0 : Int32) (by decide) d_LW_law_817 ?_
        exact h.elim
    replace h := h.2
    by_cases c22 : ((gXs g (x3).toNatClampNeg) &&& (31 : Int32)) = (22 : Int32)
    · replace h := h.1 c22
      refine a_tableIn (pc := 33) 819 (off := 786) (by rw [c22]; decide) (by rw [c22]; decide) (by rw [c22]; rfl) (by decide) d_LW_law_33 ?_
      refine a_aload_n (pc := 819) 1 rfl rfl d_LW_law_819 ?_
      refine a_aload_n (pc := 820) 0 rfl rfl d_LW_law_820 ?_
      refine a_iload_n (pc := 821) 3 rfl rfl d_LW_law_821 ?_
      refine a_iconst (pc := 822) (1 : Int32) (by decide) d_LW_law_822 ?_
      refine a_iadd (pc := 823) d_LW_law_823 ?_
      obtain ⟨hx, h⟩ := h
      refine a_scld (pc := 824) hx d_LW_law_824 ?_
      refine a_callV (pc := 825) (M' := m_BB_where) (As := [.int (gXs g ((x3 + (1 : Int32))).toNatClampNeg)]) (st := []) (mc' := 0) (ms' := 0) lk_LW_109 rfl sx_0 rfl (by decide) (by decide) rfl (Nat.le_of_ble_eq_true rfl) (by decide) (by decide) d_LW_law_825 h ?_
      rintro _ _ s122 ⟨r123, rfl, rfl, h⟩ -
      show Ax g m_LW_law 600000 7302250 lw_Z SH s122 199 156995 828 [(0, .ref (gXb g)), (1, .ref (gB g + 0)), (2, .ref (gB g + 151)), (3, .int x3)] [.long r123]
      refine a_aload_n (pc := 828) 2 rfl rfl d_LW_law_828 ?_
      refine a_aload_n (pc := 829) 0 rfl rfl d_LW_law_829 ?_
      refine a_iload_n (pc := 830) 3 rfl rfl d_LW_law_830 ?_
      refine a_iconst (pc := 831) (1 : Int32) (by decide) d_LW_law_831 ?_
      refine a_iadd (pc := 832) d_LW_law_832 ?_
      obtain ⟨hx, h⟩ := h
      refine a_scld (pc := 833) hx d_LW_law_833 ?_
      refine a_callV (pc := 834) (M' := m_BM_where) (As := [.int (gXs g ((x3 + (1 : Int32))).toNatClampNeg)]) (st := [.long r123]) (mc' := 0) (ms' := 0) lk_LW_113 rfl sx_151 rfl (by decide) (by decide) rfl (Nat.le_of_ble_eq_true rfl) (by decide) (by decide) d_LW_law_834 h ?_
      rintro _ _ s124 ⟨r125, rfl, rfl, h⟩ -
      show Ax g m_LW_law 600000 7302250 lw_Z SH s124 199 156995 837 [(0, .ref (gXb g)), (1, .ref (gB g + 0)), (2, .ref (gB g + 151)), (3, .int x3)] [.long r125, .long r123]
      refine a_lcmp (pc := 837) d_LW_law_837 ?_
      refine a_if_eq (pc := 838) 1070 (by decide) d_LW_law_838 ⟨fun c0 => ?_, fun c0 => ?_⟩
      · replace h := h.1 c0
        obtain ⟨u126, hu126⟩ : ∃ y : Int32, y = x3 + (6 : Int32) := ⟨_, rfl⟩
        replace h := h u126 hu126
        refine a_iinc (pc := 1070) (v := u126) (lv' := [(3, .int u126), (0, .ref (gXb g)), (1, .ref (gB g + 0)), (2, .ref (gB g + 151))]) 3 rfl (by rw [hu126]; rfl) (Nat.le_of_ble_eq_true rfl) rfl d_LW_law_1070 ?_
        refine a_goto (pc := 1073) 18 (by decide) d_LW_law_1073 ?_
        refine a_sub (pc := 18) [1, 2, 3, 0] rfl ?_
        exact h
      · replace h := h.2 c0
        refine a_iconst (pc := 841) (0 : Int32) (by decide) d_LW_law_841 ?_
        exact h.elim
    replace h := h.2
    by_cases c23 : ((gXs g (x3).toNatClampNeg) &&& (31 : Int32)) = (23 : Int32)
    · replace h := h.1 c23
      refine a_tableIn (pc := 33) 843 (off := 810) (by rw [c23]; decide) (by rw [c23]; decide) (by rw [c23]; rfl) (by decide) d_LW_law_33 ?_
      refine a_aload_n (pc := 843) 1 rfl rfl d_LW_law_843 ?_
      refine a_aload_n (pc := 844) 0 rfl rfl d_LW_law_844 ?_
      refine a_iload_n (pc := 845) 3 rfl rfl d_LW_law_845 ?_
      refine a_iconst (pc := 846) (1 : Int32) (by decide) d_LW_law_846 ?_
      refine a_iadd (pc := 847) d_LW_law_847 ?_
      obtain ⟨hx, h⟩ := h
      refine a_scld (pc := 848) hx d_LW_law_848 ?_
      refine a_callV (pc := 849) (M' := m_BB_tells) (As := [.int (gXs g ((x3 + (1 : Int32))).toNatClampNeg)]) (st := []) (mc' := 0) (ms' := 0) lk_LW_114 rfl sx_0 rfl (by decide) (by decide) rfl (Nat.le_of_ble_eq_true rfl) (by decide) (by decide) d_LW_law_849 h ?_
      rintro _ _ s127 ⟨r128, rfl, rfl, h⟩ -
      show Ax g m_LW_law 600000 7302250 lw_Z SH s127 199 156995 852 [(0, .ref (gXb g)), (1, .ref (gB g + 0)), (2, .ref (gB g + 151)), (3, .int x3)] [.int r128]
      refine a_aload_n (pc := 852) 2 rfl rfl d_LW_law_852 ?_
      refine a_aload_n (pc := 853) 0 rfl rfl d_LW_law_853 ?_
      refine a_iload_n (pc := 854) 3 rfl rfl d_LW_law_854 ?_
      refine a_iconst (pc := 855) (1 : Int32) (by decide) d_LW_law_855 ?_
      refine a_iadd (pc := 856) d_LW_law_856 ?_
      obtain ⟨hx, h⟩ := h
      refine a_scld (pc := 857) hx d_LW_law_857 ?_
      refine a_callV (pc := 858) (M' := m_BM_tells) (As := [.int (gXs g ((x3 + (1 : Int32))).toNatClampNeg)]) (st := [.int r128]) (mc' := 0) (ms' := 0) lk_LW_117 rfl sx_151 rfl (by decide) (by decide) rfl (Nat.le_of_ble_eq_true rfl) (by decide) (by decide) d_LW_law_858 h ?_
      rintro _ _ s129 ⟨r130, rfl, rfl, h⟩ -
      show Ax g m_LW_law 600000 7302250 lw_Z SH s129 199 156995 861 [(0, .ref (gXb g)), (1, .ref (gB g + 0)), (2, .ref (gB g + 151)), (3, .int x3)] [.int r130, .int r128]
      refine a_icmp_eq (pc := 861) 1070 (by decide) d_LW_law_861 ⟨fun c0 => ?_, fun c0 => ?_⟩
      · replace h := h.1 c0
        obtain ⟨u131, hu131⟩ : ∃ y : Int32, y = x3 + (6 : Int32) := ⟨_, rfl⟩
        replace h := h u131 hu131
        refine a_iinc (pc := 1070) (v := u131) (lv' := [(3, .int u131), (0, .ref (gXb g)), (1, .ref (gB g + 0)), (2, .ref (gB g + 151))]) 3 rfl (by rw [hu131]; rfl) (Nat.le_of_ble_eq_true rfl) rfl d_LW_law_1070 ?_
        refine a_goto (pc := 1073) 18 (by decide) d_LW_law_1073 ?_
        refine a_sub (pc := 18) [1, 2, 3, 0] rfl ?_
        exact h
      · replace h := h.2 c0
        refine a_iconst (pc := 864) (0 : Int32) (by decide) d_LW_law_864 ?_
        exact h.elim
    replace h := h.2
    by_cases c24 : ((gXs g (x3).toNatClampNeg) &&& (31 : Int32)) = (24 : Int32)
    · replace h := h.1 c24
      refine a_tableIn (pc := 33) 866 (off := 833) (by rw [c24]; decide) (by rw [c24]; decide) (by rw [c24]; rfl) (by decide) d_LW_law_33 ?_
      refine a_aload_n (pc := 866) 1 rfl rfl d_LW_law_866 ?_
      refine a_aload_n (pc := 867) 0 rfl rfl d_LW_law_867 ?_
      refine a_iload_n (pc := 868) 3 rfl rfl d_LW_law_868 ?_
      refine a_iconst (pc := 869) (1 : Int32) (by decide) d_LW_law_869 ?_
      refine a_iadd (pc := 870) d_LW_law_870 ?_
      obtain ⟨hx, h⟩ := h
      refine a_scld (pc := 871) hx d_LW_law_871 ?_
      refine a_aload_n (pc := 872) 0 rfl rfl d_LW_law_872 ?_
      refine a_iload_n (pc := 873) 3 rfl rfl d_LW_law_873 ?_
      refine a_iconst (pc := 874) (2 : Int32) (by decide) d_LW_law_874 ?_
      refine a_iadd (pc := 875) d_LW_law_875 ?_
      obtain ⟨hx, h⟩ := h
      refine a_scld (pc := 876) hx d_LW_law_876 ?_
      refine a_callV (pc := 877) (M' := m_BB_game) (As := [.int (gXs g ((x3 + (1 : Int32))).toNatClampNeg), .int (gXs g ((x3 + (2 : Int32))).toNatClampNeg)]) (st := []) (mc' := 0) (ms' := 0) lk_LW_118 rfl sx_0 rfl (by decide) (by decide) rfl (Nat.le_of_ble_eq_true rfl) (by decide) (by decide) d_LW_law_877 h ?_
      rintro _ _ s132 ⟨r133, rfl, rfl, h⟩ -
      show Ax g m_LW_law 600000 7302250 lw_Z SH s132 199 156995 880 [(0, .ref (gXb g)), (1, .ref (gB g + 0)), (2, .ref (gB g + 151)), (3, .int x3)] [.int r133]
      refine a_aload_n (pc := 880) 2 rfl rfl d_LW_law_880 ?_
      refine a_aload_n (pc := 881) 0 rfl rfl d_LW_law_881 ?_
      refine a_iload_n (pc := 882) 3 rfl rfl d_LW_law_882 ?_
      refine a_iconst (pc := 883) (1 : Int32) (by decide) d_LW_law_883 ?_
      refine a_iadd (pc := 884) d_LW_law_884 ?_
      obtain ⟨hx, h⟩ := h
      refine a_scld (pc := 885) hx d_LW_law_885 ?_
      refine a_aload_n (pc := 886) 0 rfl rfl d_LW_law_886 ?_
      refine a_iload_n (pc := 887) 3 rfl rfl d_LW_law_887 ?_
      refine a_iconst (pc := 888) (2 : Int32) (by decide) d_LW_law_888 ?_
      refine a_iadd (pc := 889) d_LW_law_889 ?_
      obtain ⟨hx, h⟩ := h
      refine a_scld (pc := 890) hx d_LW_law_890 ?_
      refine a_callV (pc := 891) (M' := m_BM_game) (As := [.int (gXs g ((x3 + (1 : Int32))).toNatClampNeg), .int (gXs g ((x3 + (2 : Int32))).toNatClampNeg)]) (st := [.int r133]) (mc' := 0) (ms' := 0) lk_LW_121 rfl sx_151 rfl (by decide) (by decide) rfl (Nat.le_of_ble_eq_true rfl) (by decide) (by decide) d_LW_law_891 h ?_
      rintro _ _ s134 ⟨r135, rfl, rfl, h⟩ -
      show Ax g m_LW_law 600000 7302250 lw_Z SH s134 199 156995 894 [(0, .ref (gXb g)), (1, .ref (gB g + 0)), (2, .ref (gB g + 151)), (3, .int x3)] [.int r135, .int r133]
      refine a_icmp_eq (pc := 894) 1070 (by decide) d_LW_law_894 ⟨fun c0 => ?_, fun c0 => ?_⟩
      · replace h := h.1 c0
        obtain ⟨u136, hu136⟩ : ∃ y : Int32, y = x3 + (6 : Int32) := ⟨_, rfl⟩
        replace h := h u136 hu136
        refine a_iinc (pc := 1070) (v := u136) (lv' := [(3, .int u136), (0, .ref (gXb g)), (1, .ref (gB g + 0)), (2, .ref (gB g + 151))]) 3 rfl (by rw [hu136]; rfl) (Nat.le_of_ble_eq_true rfl) rfl d_LW_law_1070 ?_
        refine a_goto (pc := 1073) 18 (by decide) d_LW_law_1073 ?_
        refine a_sub (pc := 18) [1, 2, 3, 0] rfl ?_
        exact h
      · replace h := h.2 c0
        refine a_iconst (pc := 897) (0 : Int32) (by decide) d_LW_law_897 ?_
        exact h.elim
    replace h := h.2
    by_cases c25 : ((gXs g (x3).toNatClampNeg) &&& (31 : Int32)) = (25 : Int32)
    · replace h := h.1 c25
      refine a_tableIn (pc := 33) 899 (off := 866) (by rw [c25]; decide) (by rw [c25]; decide) (by rw [c25]; rfl) (by decide) d_LW_law_33 ?_
      refine a_aload_n (pc := 899) 1 rfl rfl d_LW_law_899 ?_
      refine a_callV (pc := 900) (M' := m_BB_book) (As := []) (st := []) (mc' := 0) (ms' := 0) lk_LW_122 rfl sx_0 rfl (by decide) (by decide) rfl (Nat.le_of_ble_eq_true rfl) (by decide) (by decide) d_LW_law_900 h ?_
      rintro _ _ s137 ⟨r138, rfl, rfl, h⟩ -
      show Ax g m_LW_law 600000 7302250 lw_Z SH s137 199 156995 903 [(0, .ref (gXb g)), (1, .ref (gB g + 0)), (2, .ref (gB g + 151)), (3, .int x3)] [.int r138]
      refine a_aload_n (pc := 903) 2 rfl rfl d_LW_law_903 ?_
      refine a_callV (pc := 904) (M' := m_BM_book) (As := []) (st := [.int r138]) (mc' := 0) (ms' := 0) lk_LW_125 rfl sx_151 rfl (by decide) (by decide) rfl (Nat.le_of_ble_eq_true rfl) (by decide) (by decide) d_LW_law_904 h ?_
      rintro _ _ s139 ⟨r140, rfl, rfl, h⟩ -
      show Ax g m_LW_law 600000 7302250 lw_Z SH s139 199 156995 907 [(0, .ref (gXb g)), (1, .ref (gB g + 0)), (2, .ref (gB g + 151)), (3, .int x3)] [.int r140, .int r138]
      refine a_icmp_eq (pc := 907) 1070 (by decide) d_LW_law_907 ⟨fun c0 => ?_, fun c0 => ?_⟩
      · replace h := h.1 c0
        obtain ⟨u141, hu141⟩ : ∃ y : Int32, y = x3 + (6 : Int32) := ⟨_, rfl⟩
        replace h := h u141 hu141
        refine a_iinc (pc := 1070) (v := u141) (lv' := [(3, .int u141), (0, .ref (gXb g)), (1, .ref (gB g + 0)), (2, .ref (gB g + 151))]) 3 rfl (by rw [hu141]; rfl) (Nat.le_of_ble_eq_true rfl) rfl d_LW_law_1070 ?_
        refine a_goto (pc := 1073) 18 (by decide) d_LW_law_1073 ?_
        refine a_sub (pc := 18) [1, 2, 3, 0] rfl ?_
        exact h
      · replace h := h.2 c0
        refine a_iconst (pc := 910) (0 : Int32) (by decide) d_LW_law_910 ?_
        exact h.elim
    replace h := h.2
    by_cases c26 : ((gXs g (x3).toNatClampNeg) &&& (31 : Int32)) = (26 : Int32)
    · replace h := h.1 c26
      refine a_tableIn (pc := 33) 912 (off := 879) (by rw [c26]; decide) (by rw [c26]; decide) (by rw [c26]; rfl) (by decide) d_LW_law_33 ?_
      refine a_aload_n (pc := 912) 1 rfl rfl d_LW_law_912 ?_
      refine a_aload_n (pc := 913) 0 rfl rfl d_LW_law_913 ?_
      refine a_iload_n (pc := 914) 3 rfl rfl d_LW_law_914 ?_
      refine a_iconst (pc := 915) (1 : Int32) (by decide) d_LW_law_915 ?_
      refine a_iadd (pc := 916) d_LW_law_916 ?_
      obtain ⟨hx, h⟩ := h
      refine a_scld (pc := 917) hx d_LW_law_917 ?_
      refine a_callV (pc := 918) (M' := m_BB_pain) (As := [.int (gXs g ((x3 + (1 : Int32))).toNatClampNeg)]) (st := []) (mc' := 0) (ms' := 0) lk_LW_126 rfl sx_0 rfl (by decide) (by decide) rfl (Nat.le_of_ble_eq_true rfl) (by decide) (by decide) d_LW_law_918 h ?_
      rintro _ _ s142 ⟨r143, rfl, rfl, h⟩ -
      show Ax g m_LW_law 600000 7302250 lw_Z SH s142 199 156995 921 [(0, .ref (gXb g)), (1, .ref (gB g + 0)), (2, .ref (gB g + 151)), (3, .int x3)] [.int r143]
      refine a_aload_n (pc := 921) 2 rfl rfl d_LW_law_921 ?_
      refine a_aload_n (pc := 922) 0 rfl rfl d_LW_law_922 ?_
      refine a_iload_n (pc := 923) 3 rfl rfl d_LW_law_923 ?_
      refine a_iconst (pc := 924) (1 : Int32) (by decide) d_LW_law_924 ?_
      refine a_iadd (pc := 925) d_LW_law_925 ?_
      obtain ⟨hx, h⟩ := h
      refine a_scld (pc := 926) hx d_LW_law_926 ?_
      refine a_callV (pc := 927) (M' := m_BM_pain) (As := [.int (gXs g ((x3 + (1 : Int32))).toNatClampNeg)]) (st := [.int r143]) (mc' := 0) (ms' := 0) lk_LW_129 rfl sx_151 rfl (by decide) (by decide) rfl (Nat.le_of_ble_eq_true rfl) (by decide) (by decide) d_LW_law_927 h ?_
      rintro _ _ s144 ⟨r145, rfl, rfl, h⟩ -
      show Ax g m_LW_law 600000 7302250 lw_Z SH s144 199 156995 930 [(0, .ref (gXb g)), (1, .ref (gB g + 0)), (2, .ref (gB g + 151)), (3, .int x3)] [.int r145, .int r143]
      refine a_icmp_eq (pc := 930) 1070 (by decide) d_LW_law_930 ⟨fun c0 => ?_, fun c0 => ?_⟩
      · replace h := h.1 c0
        obtain ⟨u146, hu146⟩ : ∃ y : Int32, y = x3 + (6 : Int32) := ⟨_, rfl⟩
        replace h := h u146 hu146
        refine a_iinc (pc := 1070) (v := u146) (lv' := [(3, .int u146), (0, .ref (gXb g)), (1, .ref (gB g + 0)), (2, .ref (gB g + 151))]) 3 rfl (by rw [hu146]; rfl) (Nat.le_of_ble_eq_true rfl) rfl d_LW_law_1070 ?_
        refine a_goto (pc := 1073) 18 (by decide) d_LW_law_1073 ?_
        refine a_sub (pc := 18) [1, 2, 3, 0] rfl ?_
        exact h
      · replace h := h.2 c0
        refine a_iconst (pc := 933) (0 : Int32) (by decide) d_LW_law_933 ?_
        exact h.elim
    replace h := h.2
    by_cases c27 : ((gXs g (x3).toNatClampNeg) &&& (31 : Int32)) = (27 : Int32)
    · replace h := h.1 c27
      refine a_tableIn (pc := 33) 935 (off := 902) (by rw [c27]; decide) (by rw [c27]; decide) (by rw [c27]; rfl) (by decide) d_LW_law_33 ?_
      refine a_aload_n (pc := 935) 1 rfl rfl d_LW_law_935 ?_
      refine a_aload_n (pc := 936) 0 rfl rfl d_LW_law_936 ?_
      refine a_iload_n (pc := 937) 3 rfl rfl d_LW_law_937 ?_
      refine a_iconst (pc := 938) (1 : Int32) (by decide) d_LW_law_938 ?_
      refine a_iadd (pc := 939) d_LW_law_939 ?_
      obtain ⟨hx, h⟩ := h
      refine a_scld (pc := 940) hx d_LW_law_940 ?_
      refine a_callV (pc := 941) (M' := m_BB_seed) (As := [.int (gXs g ((x3 + (1 : Int32))).toNatClampNeg)]) (st := []) (mc' := 0) (ms' := 0) lk_LW_130 rfl sx_0 rfl (by decide) (by decide) rfl (Nat.le_of_ble_eq_true rfl) (by decide) (by decide) d_LW_law_941 h ?_
      rintro _ _ s147 ⟨r148, rfl, rfl, h⟩ -
      show Ax g m_LW_law 600000 7302250 lw_Z SH s147 199 156995 944 [(0, .ref (gXb g)), (1, .ref (gB g + 0)), (2, .ref (gB g + 151)), (3, .int x3)] [.int r148]
      refine a_aload_n (pc := 944) 2 rfl rfl d_LW_law_944 ?_
      refine a_aload_n (pc := 945) 0 rfl rfl d_LW_law_945 ?_
      refine a_iload_n (pc := 946) 3 rfl rfl d_LW_law_946 ?_
      refine a_iconst (pc := 947) (1 : Int32) (by decide) d_LW_law_947 ?_
      refine a_iadd (pc := 948) d_LW_law_948 ?_
      obtain ⟨hx, h⟩ := h
      refine a_scld (pc := 949) hx d_LW_law_949 ?_
      refine a_callV (pc := 950) (M' := m_BM_seed) (As := [.int (gXs g ((x3 + (1 : Int32))).toNatClampNeg)]) (st := [.int r148]) (mc' := 0) (ms' := 0) lk_LW_133 rfl sx_151 rfl (by decide) (by decide) rfl (Nat.le_of_ble_eq_true rfl) (by decide) (by decide) d_LW_law_950 h ?_
      rintro _ _ s149 ⟨r150, rfl, rfl, h⟩ -
      show Ax g m_LW_law 600000 7302250 lw_Z SH s149 199 156995 953 [(0, .ref (gXb g)), (1, .ref (gB g + 0)), (2, .ref (gB g + 151)), (3, .int x3)] [.int r150, .int r148]
      refine a_icmp_eq (pc := 953) 1070 (by decide) d_LW_law_953 ⟨fun c0 => ?_, fun c0 => ?_⟩
      · replace h := h.1 c0
        obtain ⟨u151, hu151⟩ : ∃ y : Int32, y = x3 + (6 : Int32) := ⟨_, rfl⟩
        replace h := h u151 hu151
        refine a_iinc (pc := 1070) (v := u151) (lv' := [(3, .int u151), (0, .ref (gXb g)), (1, .ref (gB g + 0)), (2, .ref (gB g + 151))]) 3 rfl (by rw [hu151]; rfl) (Nat.le_of_ble_eq_true rfl) rfl d_LW_law_1070 ?_
        refine a_goto (pc := 1073) 18 (by decide) d_LW_law_1073 ?_
        refine a_sub (pc := 18) [1, 2, 3, 0] rfl ?_
        exact h
      · replace h := h.2 c0
        refine a_iconst (pc := 956) (0 : Int32) (by decide) d_LW_law_956 ?_
        exact h.elim
    replace h := h.2
    by_cases c28 : ((gXs g (x3).toNatClampNeg) &&& (31 : Int32)) = (28 : Int32)
    · replace h := h.1 c28
      refine a_tableIn (pc := 33) 958 (off := 925) (by rw [c28]; decide) (by rw [c28]; decide) (by rw [c28]; rfl) (by decide) d_LW_law_33 ?_
      refine a_aload_n (pc := 958) 1 rfl rfl d_LW_law_958 ?_
      refine a_aload_n (pc := 959) 0 rfl rfl d_LW_law_959 ?_
      refine a_iload_n (pc := 960) 3 rfl rfl d_LW_law_960 ?_
      refine a_iconst (pc := 961) (1 : Int32) (by decide) d_LW_law_961 ?_
      refine a_iadd (pc := 962) d_LW_law_962 ?_
      obtain ⟨hx, h⟩ := h
      refine a_scld (pc := 963) hx d_LW_law_963 ?_
      refine a_aload_n (pc := 964) 0 rfl rfl d_LW_law_964 ?_
      refine a_iload_n (pc := 965) 3 rfl rfl d_LW_law_965 ?_
      refine a_iconst (pc := 966) (2 : Int32) (by decide) d_LW_law_966 ?_
      refine a_iadd (pc := 967) d_LW_law_967 ?_
      obtain ⟨hx, h⟩ := h
      refine a_scld (pc := 968) hx d_LW_law_968 ?_
      refine a_aload_n (pc := 969) 0 rfl rfl d_LW_law_969 ?_
      refine a_iload_n (pc := 970) 3 rfl rfl d_LW_law_970 ?_
      refine a_iconst (pc := 971) (3 : Int32) (by decide) d_LW_law_971 ?_
      refine a_iadd (pc := 972) d_LW_law_972 ?_
      obtain ⟨hx, h⟩ := h
      refine a_scld (pc := 973) hx d_LW_law_973 ?_
      refine a_callV (pc := 974) (M' := m_BB_shaken) (As := [.int (gXs g ((x3 + (1 : Int32))).toNatClampNeg), .int (gXs g ((x3 + (2 : Int32))).toNatClampNeg), .int (gXs g ((x3 + (3 : Int32))).toNatClampNeg)]) (st := []) (mc' := 0) (ms' := 0) lk_LW_134 rfl sx_0 rfl (by decide) (by decide) rfl (Nat.le_of_ble_eq_true rfl) (by decide) (by decide) d_LW_law_974 h ?_
      rintro _ _ s152 ⟨r153, rfl, rfl, h⟩ -
      show Ax g m_LW_law 600000 7302250 lw_Z SH s152 199 156995 977 [(0, .ref (gXb g)), (1, .ref (gB g + 0)), (2, .ref (gB g + 151)), (3, .int x3)] [.int r153]
      refine a_aload_n (pc := 977) 2 rfl rfl d_LW_law_977 ?_
      refine a_aload_n (pc := 978) 0 rfl rfl d_LW_law_978 ?_
      refine a_iload_n (pc := 979) 3 rfl rfl d_LW_law_979 ?_
      refine a_iconst (pc := 980) (1 : Int32) (by decide) d_LW_law_980 ?_
      refine a_iadd (pc := 981) d_LW_law_981 ?_
      obtain ⟨hx, h⟩ := h
      refine a_scld (pc := 982) hx d_LW_law_982 ?_
      refine a_aload_n (pc := 983) 0 rfl rfl d_LW_law_983 ?_
      refine a_iload_n (pc := 984) 3 rfl rfl d_LW_law_984 ?_
      refine a_iconst (pc := 985) (2 : Int32) (by decide) d_LW_law_985 ?_
      refine a_iadd (pc := 986) d_LW_law_986 ?_
      obtain ⟨hx, h⟩ := h
      refine a_scld (pc := 987) hx d_LW_law_987 ?_
      refine a_aload_n (pc := 988) 0 rfl rfl d_LW_law_988 ?_
      refine a_iload_n (pc := 989) 3 rfl rfl d_LW_law_989 ?_
      refine a_iconst (pc := 990) (3 : Int32) (by decide) d_LW_law_990 ?_
      refine a_iadd (pc := 991) d_LW_law_991 ?_
      obtain ⟨hx, h⟩ := h
      refine a_scld (pc := 992) hx d_LW_law_992 ?_
      refine a_callV (pc := 993) (M' := m_BM_shaken) (As := [.int (gXs g ((x3 + (1 : Int32))).toNatClampNeg), .int (gXs g ((x3 + (2 : Int32))).toNatClampNeg), .int (gXs g ((x3 + (3 : Int32))).toNatClampNeg)]) (st := [.int r153]) (mc' := 0) (ms' := 0) lk_LW_137 rfl sx_151 rfl (by decide) (by decide) rfl (Nat.le_of_ble_eq_true rfl) (by decide) (by decide) d_LW_law_993 h ?_
      rintro _ _ s154 ⟨r155, rfl, rfl, h⟩ -
      show Ax g m_LW_law 600000 7302250 lw_Z SH s154 199 156995 996 [(0, .ref (gXb g)), (1, .ref (gB g + 0)), (2, .ref (gB g + 151)), (3, .int x3)] [.int r155, .int r153]
      refine a_icmp_eq (pc := 996) 1070 (by decide) d_LW_law_996 ⟨fun c0 => ?_, fun c0 => ?_⟩
      · replace h := h.1 c0
        obtain ⟨u156, hu156⟩ : ∃ y : Int32, y = x3 + (6 : Int32) := ⟨_, rfl⟩
        replace h := h u156 hu156
        refine a_iinc (pc := 1070) (v := u156) (lv' := [(3, .int u156), (0, .ref (gXb g)), (1, .ref (gB g + 0)), (2, .ref (gB g + 151))]) 3 rfl (by rw [hu156]; rfl) (Nat.le_of_ble_eq_true rfl) rfl d_LW_law_1070 ?_
        refine a_goto (pc := 1073) 18 (by decide) d_LW_law_1073 ?_
        refine a_sub (pc := 18) [1, 2, 3, 0] rfl ?_
        exact h
      · replace h := h.2 c0
        refine a_iconst (pc := 999) (0 : Int32) (by decide) d_LW_law_999 ?_
        exact h.elim
    replace h := h.2
    by_cases c29 : ((gXs g (x3).toNatClampNeg) &&& (31 : Int32)) = (29 : Int32)
    · replace h := h.1 c29
      refine a_tableIn (pc := 33) 1001 (off := 968) (by rw [c29]; decide) (by rw [c29]; decide) (by rw [c29]; rfl) (by decide) d_LW_law_33 ?_
      refine a_aload_n (pc := 1001) 1 rfl rfl d_LW_law_1001 ?_
      refine a_aload_n (pc := 1002) 0 rfl rfl d_LW_law_1002 ?_
      refine a_iload_n (pc := 1003) 3 rfl rfl d_LW_law_1003 ?_
      refine a_iconst (pc := 1004) (1 : Int32) (by decide) d_LW_law_1004 ?_
      refine a_iadd (pc := 1005) d_LW_law_1005 ?_
      obtain ⟨hx, h⟩ := h
      refine a_scld (pc := 1006) hx d_LW_law_1006 ?_
      refine a_callV (pc := 1007) (M' := m_BB_count) (As := [.int (gXs g ((x3 + (1 : Int32))).toNatClampNeg)]) (st := []) (mc' := 0) (ms' := 0) lk_LW_138 rfl sx_0 rfl (by decide) (by decide) rfl (Nat.le_of_ble_eq_true rfl) (by decide) (by decide) d_LW_law_1007 h ?_
      rintro _ _ s157 ⟨r158, rfl, rfl, h⟩ -
      show Ax g m_LW_law 600000 7302250 lw_Z SH s157 199 156995 1010 [(0, .ref (gXb g)), (1, .ref (gB g + 0)), (2, .ref (gB g + 151)), (3, .int x3)] [.int r158]
      refine a_aload_n (pc := 1010) 2 rfl rfl d_LW_law_1010 ?_
      refine a_aload_n (pc := 1011) 0 rfl rfl d_LW_law_1011 ?_
      refine a_iload_n (pc := 1012) 3 rfl rfl d_LW_law_1012 ?_
      refine a_iconst (pc := 1013) (1 : Int32) (by decide) d_LW_law_1013 ?_
      refine a_iadd (pc := 1014) d_LW_law_1014 ?_
      obtain ⟨hx, h⟩ := h
      refine a_scld (pc := 1015) hx d_LW_law_1015 ?_
      refine a_callV (pc := 1016) (M' := m_BM_count) (As := [.int (gXs g ((x3 + (1 : Int32))).toNatClampNeg)]) (st := [.int r158]) (mc' := 0) (ms' := 0) lk_LW_141 rfl sx_151 rfl (by decide) (by decide) rfl (Nat.le_of_ble_eq_true rfl) (by decide) (by decide) d_LW_law_1016 h ?_
      rintro _ _ s159 ⟨r160, rfl, rfl, h⟩ -
      show Ax g m_LW_law 600000 7302250 lw_Z SH s159 199 156995 1019 [(0, .ref (gXb g)), (1, .ref (gB g + 0)), (2, .ref (gB g + 151)), (3, .int x3)] [.int r160, .int r158]
      refine a_icmp_eq (pc := 1019) 1070 (by decide) d_LW_law_1019 ⟨fun c0 => ?_, fun c0 => ?_⟩
      · replace h := h.1 c0
        obtain ⟨u161, hu161⟩ : ∃ y : Int32, y = x3 + (6 : Int32) := ⟨_, rfl⟩
        replace h := h u161 hu161
        refine a_iinc (pc := 1070) (v := u161) (lv' := [(3, .int u161), (0, .ref (gXb g)), (1, .ref (gB g + 0)), (2, .ref (gB g + 151))]) 3 rfl (by rw [hu161]; rfl) (Nat.le_of_ble_eq_true rfl) rfl d_LW_law_1070 ?_
        refine a_goto (pc := 1073) 18 (by decide) d_LW_law_1073 ?_
        refine a_sub (pc := 18) [1, 2, 3, 0] rfl ?_
        exact h
      · replace h := h.2 c0
        refine a_iconst (pc := 1022) (0 : Int32) (by decide) d_LW_law_1022 ?_
        exact h.elim
    replace h := h.2
    by_cases c30 : ((gXs g (x3).toNatClampNeg) &&& (31 : Int32)) = (30 : Int32)
    · replace h := h.1 c30
      refine a_tableIn (pc := 33) 1024 (off := 991) (by rw [c30]; decide) (by rw [c30]; decide) (by rw [c30]; rfl) (by decide) d_LW_law_33 ?_
      refine a_aload_n (pc := 1024) 1 rfl rfl d_LW_law_1024 ?_
      refine a_aload_n (pc := 1025) 0 rfl rfl d_LW_law_1025 ?_
      refine a_iload_n (pc := 1026) 3 rfl rfl d_LW_law_1026 ?_
      refine a_iconst (pc := 1027) (1 : Int32) (by decide) d_LW_law_1027 ?_
      refine a_iadd (pc := 1028) d_LW_law_1028 ?_
      obtain ⟨hx, h⟩ := h
      refine a_scld (pc := 1029) hx d_LW_law_1029 ?_
      refine a_callV (pc := 1030) (M' := m_BB_image) (As := [.int (gXs g ((x3 + (1 : Int32))).toNatClampNeg)]) (st := []) (mc' := 0) (ms' := 0) lk_LW_142 rfl sx_0 rfl (by decide) (by decide) rfl (Nat.le_of_ble_eq_true rfl) (by decide) (by decide) d_LW_law_1030 h ?_
      rintro _ _ s162 ⟨r163, rfl, rfl, h⟩ -
      show Ax g m_LW_law 600000 7302250 lw_Z SH s162 199 156995 1033 [(0, .ref (gXb g)), (1, .ref (gB g + 0)), (2, .ref (gB g + 151)), (3, .int x3)] [.int r163]
      refine a_aload_n (pc := 1033) 2 rfl rfl d_LW_law_1033 ?_
      refine a_aload_n (pc := 1034) 0 rfl rfl d_LW_law_1034 ?_
      refine a_iload_n (pc := 1035) 3 rfl rfl d_LW_law_1035 ?_
      refine a_iconst (pc := 1036) (1 : Int32) (by decide) d_LW_law_1036 ?_
      refine a_iadd (pc := 1037) d_LW_law_1037 ?_
      obtain ⟨hx, h⟩ := h
      refine a_scld (pc := 1038) hx d_LW_law_1038 ?_
      refine a_callV (pc := 1039) (M' := m_BM_image) (As := [.int (gXs g ((x3 + (1 : Int32))).toNatClampNeg)]) (st := [.int r163]) (mc' := 0) (ms' := 0) lk_LW_145 rfl sx_151 rfl (by decide) (by decide) rfl (Nat.le_of_ble_eq_true rfl) (by decide) (by decide) d_LW_law_1039 h ?_
      rintro _ _ s164 ⟨r165, rfl, rfl, h⟩ -
      show Ax g m_LW_law 600000 7302250 lw_Z SH s164 199 156995 1042 [(0, .ref (gXb g)), (1, .ref (gB g + 0)), (2, .ref (gB g + 151)), (3, .int x3)] [.int r165, .int r163]
      refine a_icmp_eq (pc := 1042) 1070 (by decide) d_LW_law_1042 ⟨fun c0 => ?_, fun c0 => ?_⟩
      · replace h := h.1 c0
        obtain ⟨u166, hu166⟩ : ∃ y : Int32, y = x3 + (6 : Int32) := ⟨_, rfl⟩
        replace h := h u166 hu166
        refine a_iinc (pc := 1070) (v := u166) (lv' := [(3, .int u166), (0, .ref (gXb g)), (1, .ref (gB g + 0)), (2, .ref (gB g + 151))]) 3 rfl (by rw [hu166]; rfl) (Nat.le_of_ble_eq_true rfl) rfl d_LW_law_1070 ?_
        refine a_goto (pc := 1073) 18 (by decide) d_LW_law_1073 ?_
        refine a_sub (pc := 18) [1, 2, 3, 0] rfl ?_
        exact h
      · replace h := h.2 c0
        refine a_iconst (pc := 1045) (0 : Int32) (by decide) d_LW_law_1045 ?_
        exact h.elim
    replace h := h.2
    by_cases c31 : ((gXs g (x3).toNatClampNeg) &&& (31 : Int32)) = (31 : Int32)
    · replace h := h.1 c31
      refine a_tableIn (pc := 33) 1047 (off := 1014) (by rw [c31]; decide) (by rw [c31]; decide) (by rw [c31]; rfl) (by decide) d_LW_law_33 ?_
      refine a_aload_n (pc := 1047) 1 rfl rfl d_LW_law_1047 ?_
      refine a_aload_n (pc := 1048) 0 rfl rfl d_LW_law_1048 ?_
      refine a_iload_n (pc := 1049) 3 rfl rfl d_LW_law_1049 ?_
      refine a_iconst (pc := 1050) (1 : Int32) (by decide) d_LW_law_1050 ?_
      refine a_iadd (pc := 1051) d_LW_law_1051 ?_
      obtain ⟨hx, h⟩ := h
      refine a_scld (pc := 1052) hx d_LW_law_1052 ?_
      refine a_callV (pc := 1053) (M' := m_BB_back) (As := [.int (gXs g ((x3 + (1 : Int32))).toNatClampNeg)]) (st := []) (mc' := 0) (ms' := 0) lk_LW_146 rfl sx_0 rfl (by decide) (by decide) rfl (Nat.le_of_ble_eq_true rfl) (by decide) (by decide) d_LW_law_1053 h ?_
      rintro _ _ s167 ⟨r168, rfl, rfl, h⟩ -
      show Ax g m_LW_law 600000 7302250 lw_Z SH s167 199 156995 1056 [(0, .ref (gXb g)), (1, .ref (gB g + 0)), (2, .ref (gB g + 151)), (3, .int x3)] [.int r168]
      refine a_aload_n (pc := 1056) 2 rfl rfl d_LW_law_1056 ?_
      refine a_aload_n (pc := 1057) 0 rfl rfl d_LW_law_1057 ?_
      refine a_iload_n (pc := 1058) 3 rfl rfl d_LW_law_1058 ?_
      refine a_iconst (pc := 1059) (1 : Int32) (by decide) d_LW_law_1059 ?_
      refine a_iadd (pc := 1060) d_LW_law_1060 ?_
      obtain ⟨hx, h⟩ := h
      refine a_scld (pc := 1061) hx d_LW_law_1061 ?_
      refine a_callV (pc := 1062) (M' := m_BM_back) (As := [.int (gXs g ((x3 + (1 : Int32))).toNatClampNeg)]) (st := [.int r168]) (mc' := 0) (ms' := 0) lk_LW_149 rfl sx_151 rfl (by decide) (by decide) rfl (Nat.le_of_ble_eq_true rfl) (by decide) (by decide) d_LW_law_1062 h ?_
      rintro _ _ s169 ⟨r170, rfl, rfl, h⟩ -
      show Ax g m_LW_law 600000 7302250 lw_Z SH s169 199 156995 1065 [(0, .ref (gXb g)), (1, .ref (gB g + 0)), (2, .ref (gB g + 151)), (3, .int x3)] [.int r170, .int r168]
      refine a_icmp_eq (pc := 1065) 1070 (by decide) d_LW_law_1065 ⟨fun c0 => ?_, fun c0 => ?_⟩
      · replace h := h.1 c0
        obtain ⟨u171, hu171⟩ : ∃ y : Int32, y = x3 + (6 : Int32) := ⟨_, rfl⟩
        replace h := h u171 hu171
        refine a_iinc (pc := 1070) (v := u171) (lv' := [(3, .int u171), (0, .ref (gXb g)), (1, .ref (gB g + 0)), (2, .ref (gB g + 151))]) 3 rfl (by rw [hu171]; rfl) (Nat.le_of_ble_eq_true rfl) rfl d_LW_law_1070 ?_
        refine a_goto (pc := 1073) 18 (by decide) d_LW_law_1073 ?_
        refine a_sub (pc := 18) [1, 2, 3, 0] rfl ?_
        exact h
      · replace h := h.2 c0
        refine a_iconst (pc := 1068) (0 : Int32) (by decide) d_LW_law_1068 ?_
        exact h.elim
    replace h := h.2
    replace h := h c0 c1 c2 c3 c4 c5 c6 c7 c8 c9 c10 c11 c12 c13 c14 c15 c16 c17 c18 c19 c20 c21 c22 c23 c24 c25 c26 c27 c28 c29 c30 c31
    have e0 := lv_neT (a := 0) c0 rfl
    have e1 := lv_neT (a := 1) c1 rfl
    have e2 := lv_neT (a := 2) c2 rfl
    have e3 := lv_neT (a := 3) c3 rfl
    have e4 := lv_neT (a := 4) c4 rfl
    have e5 := lv_neT (a := 5) c5 rfl
    have e6 := lv_neT (a := 6) c6 rfl
    have e7 := lv_neT (a := 7) c7 rfl
    have e8 := lv_neT (a := 8) c8 rfl
    have e9 := lv_neT (a := 9) c9 rfl
    have e10 := lv_neT (a := 10) c10 rfl
    have e11 := lv_neT (a := 11) c11 rfl
    have e12 := lv_neT (a := 12) c12 rfl
    have e13 := lv_neT (a := 13) c13 rfl
    have e14 := lv_neT (a := 14) c14 rfl
    have e15 := lv_neT (a := 15) c15 rfl
    have e16 := lv_neT (a := 16) c16 rfl
    have e17 := lv_neT (a := 17) c17 rfl
    have e18 := lv_neT (a := 18) c18 rfl
    have e19 := lv_neT (a := 19) c19 rfl
    have e20 := lv_neT (a := 20) c20 rfl
    have e21 := lv_neT (a := 21) c21 rfl
    have e22 := lv_neT (a := 22) c22 rfl
    have e23 := lv_neT (a := 23) c23 rfl
    have e24 := lv_neT (a := 24) c24 rfl
    have e25 := lv_neT (a := 25) c25 rfl
    have e26 := lv_neT (a := 26) c26 rfl
    have e27 := lv_neT (a := 27) c27 rfl
    have e28 := lv_neT (a := 28) c28 rfl
    have e29 := lv_neT (a := 29) c29 rfl
    have e30 := lv_neT (a := 30) c30 rfl
    have e31 := lv_neT (a := 31) c31 rfl
    refine a_tableOut (pc := 33) 1070 (by omega) (by decide) d_LW_law_33 ?_
    obtain ⟨u172, hu172⟩ : ∃ y : Int32, y = x3 + (6 : Int32) := ⟨_, rfl⟩
    replace h := h u172 hu172
    refine a_iinc (pc := 1070) (v := u172) (lv' := [(3, .int u172), (0, .ref (gXb g)), (1, .ref (gB g + 0)), (2, .ref (gB g + 151))]) 3 rfl (by rw [hu172]; rfl) (Nat.le_of_ble_eq_true rfl) rfl d_LW_law_1070 ?_
    refine a_goto (pc := 1073) 18 (by decide) d_LW_law_1073 ?_
    refine a_sub (pc := 18) [1, 2, 3, 0] rfl ?_
    exact h
