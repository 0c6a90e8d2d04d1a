theorem d_0_0 : decode code 0 = .ok (.new 8, 3) := by decide +kernel
theorem d_0_3 : decode code 3 = .ok (.dup, 1) := by decide +kernel
theorem d_0_4 : decode code 4 = .ok (.aload_n 0, 1) := by decide +kernel
theorem d_0_5 : decode code 5 = .ok (.iconst (0), 1) := by decide +kernel
theorem d_0_6 : decode code 6 = .ok (.invokestatic 65, 3) := by decide +kernel
theorem d_0_9 : decode code 9 = .ok (.aload_n 0, 1) := by decide +kernel
theorem d_0_10 : decode code 10 = .ok (.iconst (1), 1) := by decide +kernel
theorem d_0_11 : decode code 11 = .ok (.invokestatic 65, 3) := by decide +kernel
theorem d_0_14 : decode code 14 = .ok (.invokespecial 71, 3) := by decide +kernel
theorem d_0_17 : decode code 17 = .ok (.astore_n 1, 1) := by decide +kernel
theorem d_0_18 : decode code 18 = .ok (.new 74, 3) := by decide +kernel
theorem d_0_21 : decode code 21 = .ok (.dup, 1) := by decide +kernel
theorem d_0_22 : decode code 22 = .ok (.aload_n 0, 1) := by decide +kernel
theorem d_0_23 : decode code 23 = .ok (.iconst (0), 1) := by decide +kernel
theorem d_0_24 : decode code 24 = .ok (.invokestatic 65, 3) := by decide +kernel
theorem d_0_27 : decode code 27 = .ok (.aload_n 0, 1) := by decide +kernel
theorem d_0_28 : decode code 28 = .ok (.iconst (1), 1) := by decide +kernel
theorem d_0_29 : decode code 29 = .ok (.invokestatic 65, 3) := by decide +kernel
theorem d_0_32 : decode code 32 = .ok (.invokespecial 76, 3) := by decide +kernel
theorem d_0_35 : decode code 35 = .ok (.astore_n 2, 1) := by decide +kernel
theorem d_0_36 : decode code 36 = .ok (.iconst (1), 1) := by decide +kernel
theorem d_0_37 : decode code 37 = .ok (.newarray .long, 2) := by decide +kernel
theorem d_0_39 : decode code 39 = .ok (.astore_n 3, 1) := by decide +kernel
theorem d_0_40 : decode code 40 = .ok (.iconst (2), 1) := by decide +kernel
theorem d_0_41 : decode code 41 = .ok (.istore 4, 2) := by decide +kernel
theorem d_0_43 : decode code 43 = .ok (.iload 4, 2) := by decide +kernel
theorem d_0_45 : decode code 45 = .ok (.aload_n 0, 1) := by decide +kernel
theorem d_0_46 : decode code 46 = .ok (.arraylength, 1) := by decide +kernel
theorem d_0_47 : decode code 47 = .ok (.iconst (4), 1) := by decide +kernel
theorem d_0_48 : decode code 48 = .ok (.isub, 1) := by decide +kernel
theorem d_0_49 : decode code 49 = .ok (.if_icmp .gt (929), 3) := by decide +kernel
theorem d_0_52 : decode code 52 = .ok (.aload_n 0, 1) := by decide +kernel
theorem d_0_53 : decode code 53 = .ok (.iload 4, 2) := by decide +kernel
theorem d_0_55 : decode code 55 = .ok (.iaload, 1) := by decide +kernel
theorem d_0_56 : decode code 56 = .ok (.bipush (31), 2) := by decide +kernel
theorem d_0_58 : decode code 58 = .ok (.iand, 1) := by decide +kernel
theorem d_0_59 : decode code 59 = .ok (.tableswitch 913 0 19 #[93, 149, 185, 196, 207, 251, 276, 289, 345, 425, 493, 561, 624, 680, 704, 767, 818, 831, 844, 857], 93) := by decide +kernel
theorem d_0_152 : decode code 152 = .ok (.aload_n 1, 1) := by decide +kernel
theorem d_0_153 : decode code 153 = .ok (.aload_n 0, 1) := by decide +kernel
theorem d_0_154 : decode code 154 = .ok (.iload 4, 2) := by decide +kernel
theorem d_0_156 : decode code 156 = .ok (.iconst (1), 1) := by decide +kernel
theorem d_0_157 : decode code 157 = .ok (.iadd, 1) := by decide +kernel
theorem d_0_158 : decode code 158 = .ok (.iaload, 1) := by decide +kernel
theorem d_0_159 : decode code 159 = .ok (.aload_n 3, 1) := by decide +kernel
theorem d_0_160 : decode code 160 = .ok (.invokestatic 77, 3) := by decide +kernel
theorem d_0_163 : decode code 163 = .ok (.istore 5, 2) := by decide +kernel
theorem d_0_165 : decode code 165 = .ok (.aload_n 2, 1) := by decide +kernel
theorem d_0_166 : decode code 166 = .ok (.aload_n 0, 1) := by decide +kernel
theorem d_0_167 : decode code 167 = .ok (.iload 4, 2) := by decide +kernel
theorem d_0_169 : decode code 169 = .ok (.iconst (1), 1) := by decide +kernel
theorem d_0_170 : decode code 170 = .ok (.iadd, 1) := by decide +kernel
theorem d_0_171 : decode code 171 = .ok (.iaload, 1) := by decide +kernel
theorem d_0_172 : decode code 172 = .ok (.invokevirtual 80, 3) := by decide +kernel
theorem d_0_175 : decode code 175 = .ok (.istore 6, 2) := by decide +kernel
theorem d_0_177 : decode code 177 = .ok (.aload_n 2, 1) := by decide +kernel
theorem d_0_178 : decode code 178 = .ok (.invokevirtual 81, 3) := by decide +kernel
theorem d_0_181 : decode code 181 = .ok (.iload 5, 2) := by decide +kernel
theorem d_0_183 : decode code 183 = .ok (.if_icmp .eq (5), 3) := by decide +kernel
theorem d_0_186 : decode code 186 = .ok (.iconst (0), 1) := by decide +kernel
theorem d_0_187 : decode code 187 = .ok (.ireturn, 1) := by decide +kernel
theorem d_0_188 : decode code 188 = .ok (.iload 5, 2) := by decide +kernel
theorem d_0_190 : decode code 190 = .ok (.ifCond .ne (15), 3) := by decide +kernel
theorem d_0_193 : decode code 193 = .ok (.aload_n 3, 1) := by decide +kernel
theorem d_0_194 : decode code 194 = .ok (.iconst (0), 1) := by decide +kernel
theorem d_0_195 : decode code 195 = .ok (.laload, 1) := by decide +kernel
theorem d_0_196 : decode code 196 = .ok (.iload 6, 2) := by decide +kernel
theorem d_0_198 : decode code 198 = .ok (.i2l, 1) := by decide +kernel
theorem d_0_199 : decode code 199 = .ok (.lcmp, 1) := by decide +kernel
theorem d_0_200 : decode code 200 = .ok (.ifCond .eq (5), 3) := by decide +kernel
theorem d_0_203 : decode code 203 = .ok (.iconst (0), 1) := by decide +kernel
theorem d_0_204 : decode code 204 = .ok (.ireturn, 1) := by decide +kernel
theorem d_0_205 : decode code 205 = .ok (.goto (767), 3) := by decide +kernel
theorem d_0_208 : decode code 208 = .ok (.aload_n 1, 1) := by decide +kernel
theorem d_0_209 : decode code 209 = .ok (.aload_n 0, 1) := by decide +kernel
theorem d_0_210 : decode code 210 = .ok (.iload 4, 2) := by decide +kernel
theorem d_0_212 : decode code 212 = .ok (.iconst (1), 1) := by decide +kernel
theorem d_0_213 : decode code 213 = .ok (.iadd, 1) := by decide +kernel
theorem d_0_214 : decode code 214 = .ok (.iaload, 1) := by decide +kernel
theorem d_0_215 : decode code 215 = .ok (.invokestatic 84, 3) := by decide +kernel
theorem d_0_218 : decode code 218 = .ok (.istore 5, 2) := by decide +kernel
theorem d_0_220 : decode code 220 = .ok (.aload_n 2, 1) := by decide +kernel
theorem d_0_221 : decode code 221 = .ok (.aload_n 0, 1) := by decide +kernel
theorem d_0_222 : decode code 222 = .ok (.iload 4, 2) := by decide +kernel
theorem d_0_224 : decode code 224 = .ok (.iconst (1), 1) := by decide +kernel
theorem d_0_225 : decode code 225 = .ok (.iadd, 1) := by decide +kernel
theorem d_0_226 : decode code 226 = .ok (.iaload, 1) := by decide +kernel
theorem d_0_227 : decode code 227 = .ok (.invokevirtual 87, 3) := by decide +kernel
theorem d_0_230 : decode code 230 = .ok (.aload_n 2, 1) := by decide +kernel
theorem d_0_231 : decode code 231 = .ok (.invokevirtual 81, 3) := by decide +kernel
theorem d_0_234 : decode code 234 = .ok (.iload 5, 2) := by decide +kernel
theorem d_0_236 : decode code 236 = .ok (.if_icmp .eq (5), 3) := by decide +kernel
theorem d_0_239 : decode code 239 = .ok (.iconst (0), 1) := by decide +kernel
theorem d_0_240 : decode code 240 = .ok (.ireturn, 1) := by decide +kernel
theorem d_0_241 : decode code 241 = .ok (.goto (731), 3) := by decide +kernel
theorem d_0_244 : decode code 244 = .ok (.aload_n 1, 1) := by decide +kernel
theorem d_0_245 : decode code 245 = .ok (.invokevirtual 88, 3) := by decide +kernel
theorem d_0_248 : decode code 248 = .ok (.aload_n 2, 1) := by decide +kernel
theorem d_0_249 : decode code 249 = .ok (.invokevirtual 91, 3) := by decide +kernel
theorem d_0_252 : decode code 252 = .ok (.goto (720), 3) := by decide +kernel
theorem d_0_255 : decode code 255 = .ok (.aload_n 1, 1) := by decide +kernel
theorem d_0_256 : decode code 256 = .ok (.invokevirtual 92, 3) := by decide +kernel
theorem d_0_259 : decode code 259 = .ok (.aload_n 2, 1) := by decide +kernel
theorem d_0_260 : decode code 260 = .ok (.invokevirtual 95, 3) := by decide +kernel
theorem d_0_263 : decode code 263 = .ok (.goto (709), 3) := by decide +kernel
theorem d_0_266 : decode code 266 = .ok (.aload_n 1, 1) := by decide +kernel
theorem d_0_267 : decode code 267 = .ok (.aload_n 3, 1) := by decide +kernel
theorem d_0_268 : decode code 268 = .ok (.invokestatic 96, 3) := by decide +kernel
theorem d_0_271 : decode code 271 = .ok (.istore 5, 2) := by decide +kernel
theorem d_0_273 : decode code 273 = .ok (.aload_n 2, 1) := by decide +kernel
theorem d_0_274 : decode code 274 = .ok (.invokevirtual 99, 3) := by decide +kernel
theorem d_0_277 : decode code 277 = .ok (.istore 6, 2) := by decide +kernel
theorem d_0_279 : decode code 279 = .ok (.aload_n 2, 1) := by decide +kernel
theorem d_0_280 : decode code 280 = .ok (.invokevirtual 81, 3) := by decide +kernel
theorem d_0_283 : decode code 283 = .ok (.iload 5, 2) := by decide +kernel
theorem d_0_285 : decode code 285 = .ok (.if_icmp .eq (5), 3) := by decide +kernel
theorem d_0_288 : decode code 288 = .ok (.iconst (0), 1) := by decide +kernel
theorem d_0_289 : decode code 289 = .ok (.ireturn, 1) := by decide +kernel
theorem d_0_290 : decode code 290 = .ok (.iload 5, 2) := by decide +kernel
theorem d_0_292 : decode code 292 = .ok (.ifCond .ne (15), 3) := by decide +kernel
theorem d_0_295 : decode code 295 = .ok (.aload_n 3, 1) := by decide +kernel
theorem d_0_296 : decode code 296 = .ok (.iconst (0), 1) := by decide +kernel
theorem d_0_297 : decode code 297 = .ok (.laload, 1) := by decide +kernel
theorem d_0_298 : decode code 298 = .ok (.iload 6, 2) := by decide +kernel
theorem d_0_300 : decode code 300 = .ok (.i2l, 1) := by decide +kernel
theorem d_0_301 : decode code 301 = .ok (.lcmp, 1) := by decide +kernel
theorem d_0_302 : decode code 302 = .ok (.ifCond .eq (5), 3) := by decide +kernel
theorem d_0_305 : decode code 305 = .ok (.iconst (0), 1) := by decide +kernel
theorem d_0_306 : decode code 306 = .ok (.ireturn, 1) := by decide +kernel
theorem d_0_307 : decode code 307 = .ok (.goto (665), 3) := by decide +kernel
theorem d_0_310 : decode code 310 = .ok (.aload_n 1, 1) := by decide +kernel
theorem d_0_311 : decode code 311 = .ok (.aload_n 0, 1) := by decide +kernel
theorem d_0_312 : decode code 312 = .ok (.iload 4, 2) := by decide +kernel
theorem d_0_314 : decode code 314 = .ok (.iconst (1), 1) := by decide +kernel
theorem d_0_315 : decode code 315 = .ok (.iadd, 1) := by decide +kernel
theorem d_0_316 : decode code 316 = .ok (.iaload, 1) := by decide +kernel
theorem d_0_317 : decode code 317 = .ok (.invokevirtual 100, 3) := by decide +kernel
theorem d_0_320 : decode code 320 = .ok (.aload_n 2, 1) := by decide +kernel
theorem d_0_321 : decode code 321 = .ok (.aload_n 0, 1) := by decide +kernel
theorem d_0_322 : decode code 322 = .ok (.iload 4, 2) := by decide +kernel
theorem d_0_324 : decode code 324 = .ok (.iconst (1), 1) := by decide +kernel
theorem d_0_325 : decode code 325 = .ok (.iadd, 1) := by decide +kernel
theorem d_0_326 : decode code 326 = .ok (.iaload, 1) := by decide +kernel
theorem d_0_327 : decode code 327 = .ok (.invokevirtual 103, 3) := by decide +kernel
theorem d_0_330 : decode code 330 = .ok (.if_icmp .eq (642), 3) := by decide +kernel
theorem d_0_333 : decode code 333 = .ok (.iconst (0), 1) := by decide +kernel
theorem d_0_334 : decode code 334 = .ok (.ireturn, 1) := by decide +kernel
theorem d_0_335 : decode code 335 = .ok (.aload_n 1, 1) := by decide +kernel
theorem d_0_336 : decode code 336 = .ok (.invokevirtual 104, 3) := by decide +kernel
theorem d_0_339 : decode code 339 = .ok (.aload_n 2, 1) := by decide +kernel
theorem d_0_340 : decode code 340 = .ok (.invokevirtual 107, 3) := by decide +kernel
theorem d_0_343 : decode code 343 = .ok (.if_icmp .eq (629), 3) := by decide +kernel
theorem d_0_346 : decode code 346 = .ok (.iconst (0), 1) := by decide +kernel
theorem d_0_347 : decode code 347 = .ok (.ireturn, 1) := by decide +kernel
theorem d_0_348 : decode code 348 = .ok (.aload_n 1, 1) := by decide +kernel
theorem d_0_349 : decode code 349 = .ok (.aload_n 0, 1) := by decide +kernel
theorem d_0_350 : decode code 350 = .ok (.iload 4, 2) := by decide +kernel
theorem d_0_352 : decode code 352 = .ok (.iconst (1), 1) := by decide +kernel
theorem d_0_353 : decode code 353 = .ok (.iadd, 1) := by decide +kernel
theorem d_0_354 : decode code 354 = .ok (.iaload, 1) := by decide +kernel
theorem d_0_355 : decode code 355 = .ok (.aload_n 3, 1) := by decide +kernel
theorem d_0_356 : decode code 356 = .ok (.invokestatic 108, 3) := by decide +kernel
theorem d_0_359 : decode code 359 = .ok (.istore 5, 2) := by decide +kernel
theorem d_0_361 : decode code 361 = .ok (.aload_n 2, 1) := by decide +kernel
theorem d_0_362 : decode code 362 = .ok (.aload_n 0, 1) := by decide +kernel
theorem d_0_363 : decode code 363 = .ok (.iload 4, 2) := by decide +kernel
theorem d_0_365 : decode code 365 = .ok (.iconst (1), 1) := by decide +kernel
theorem d_0_366 : decode code 366 = .ok (.iadd, 1) := by decide +kernel
theorem d_0_367 : decode code 367 = .ok (.iaload, 1) := by decide +kernel
theorem d_0_368 : decode code 368 = .ok (.invokevirtual 110, 3) := by decide +kernel
theorem d_0_371 : decode code 371 = .ok (.istore 6, 2) := by decide +kernel
theorem d_0_373 : decode code 373 = .ok (.aload_n 2, 1) := by decide +kernel
theorem d_0_374 : decode code 374 = .ok (.invokevirtual 81, 3) := by decide +kernel
theorem d_0_377 : decode code 377 = .ok (.iload 5, 2) := by decide +kernel
theorem d_0_379 : decode code 379 = .ok (.if_icmp .eq (5), 3) := by decide +kernel
theorem d_0_382 : decode code 382 = .ok (.iconst (0), 1) := by decide +kernel
theorem d_0_383 : decode code 383 = .ok (.ireturn, 1) := by decide +kernel
theorem d_0_384 : decode code 384 = .ok (.iload 5, 2) := by decide +kernel
theorem d_0_386 : decode code 386 = .ok (.ifCond .ne (15), 3) := by decide +kernel
theorem d_0_389 : decode code 389 = .ok (.aload_n 3, 1) := by decide +kernel
theorem d_0_390 : decode code 390 = .ok (.iconst (0), 1) := by decide +kernel
theorem d_0_391 : decode code 391 = .ok (.laload, 1) := by decide +kernel
theorem d_0_392 : decode code 392 = .ok (.iload 6, 2) := by decide +kernel
theorem d_0_394 : decode code 394 = .ok (.i2l, 1) := by decide +kernel
theorem d_0_395 : decode code 395 = .ok (.lcmp, 1) := by decide +kernel
theorem d_0_396 : decode code 396 = .ok (.ifCond .eq (5), 3) := by decide +kernel
theorem d_0_399 : decode code 399 = .ok (.iconst (0), 1) := by decide +kernel
theorem d_0_400 : decode code 400 = .ok (.ireturn, 1) := by decide +kernel
theorem d_0_401 : decode code 401 = .ok (.goto (571), 3) := by decide +kernel
theorem d_0_404 : decode code 404 = .ok (.aload_n 1, 1) := by decide +kernel
theorem d_0_405 : decode code 405 = .ok (.aload_n 0, 1) := by decide +kernel
theorem d_0_406 : decode code 406 = .ok (.iload 4, 2) := by decide +kernel
theorem d_0_408 : decode code 408 = .ok (.iconst (1), 1) := by decide +kernel
theorem d_0_409 : decode code 409 = .ok (.iadd, 1) := by decide +kernel
theorem d_0_410 : decode code 410 = .ok (.iaload, 1) := by decide +kernel
theorem d_0_411 : decode code 411 = .ok (.aload_n 0, 1) := by decide +kernel
theorem d_0_412 : decode code 412 = .ok (.iload 4, 2) := by decide +kernel
theorem d_0_414 : decode code 414 = .ok (.iconst (2), 1) := by decide +kernel
theorem d_0_415 : decode code 415 = .ok (.iadd, 1) := by decide +kernel
theorem d_0_416 : decode code 416 = .ok (.iaload, 1) := by decide +kernel
theorem d_0_417 : decode code 417 = .ok (.aload_n 0, 1) := by decide +kernel
theorem d_0_418 : decode code 418 = .ok (.iload 4, 2) := by decide +kernel
theorem d_0_420 : decode code 420 = .ok (.iconst (3), 1) := by decide +kernel
theorem d_0_421 : decode code 421 = .ok (.iadd, 1) := by decide +kernel
theorem d_0_422 : decode code 422 = .ok (.iaload, 1) := by decide +kernel
theorem d_0_423 : decode code 423 = .ok (.aload_n 3, 1) := by decide +kernel
theorem d_0_424 : decode code 424 = .ok (.invokestatic 111, 3) := by decide +kernel
theorem d_0_427 : decode code 427 = .ok (.istore 5, 2) := by decide +kernel
theorem d_0_429 : decode code 429 = .ok (.aload_n 2, 1) := by decide +kernel
theorem d_0_430 : decode code 430 = .ok (.aload_n 0, 1) := by decide +kernel
theorem d_0_431 : decode code 431 = .ok (.iload 4, 2) := by decide +kernel
theorem d_0_433 : decode code 433 = .ok (.iconst (1), 1) := by decide +kernel
theorem d_0_434 : decode code 434 = .ok (.iadd, 1) := by decide +kernel
theorem d_0_435 : decode code 435 = .ok (.iaload, 1) := by decide +kernel
theorem d_0_436 : decode code 436 = .ok (.aload_n 0, 1) := by decide +kernel
theorem d_0_437 : decode code 437 = .ok (.iload 4, 2) := by decide +kernel
theorem d_0_439 : decode code 439 = .ok (.iconst (2), 1) := by decide +kernel
theorem d_0_440 : decode code 440 = .ok (.iadd, 1) := by decide +kernel
theorem d_0_441 : decode code 441 = .ok (.iaload, 1) := by decide +kernel
theorem d_0_442 : decode code 442 = .ok (.aload_n 0, 1) := by decide +kernel
theorem d_0_443 : decode code 443 = .ok (.iload 4, 2) := by decide +kernel
theorem d_0_445 : decode code 445 = .ok (.iconst (3), 1) := by decide +kernel
theorem d_0_446 : decode code 446 = .ok (.iadd, 1) := by decide +kernel
theorem d_0_447 : decode code 447 = .ok (.iaload, 1) := by decide +kernel
theorem d_0_448 : decode code 448 = .ok (.invokevirtual 114, 3) := by decide +kernel
theorem d_0_451 : decode code 451 = .ok (.istore 6, 2) := by decide +kernel
theorem d_0_453 : decode code 453 = .ok (.aload_n 2, 1) := by decide +kernel
theorem d_0_454 : decode code 454 = .ok (.invokevirtual 81, 3) := by decide +kernel
theorem d_0_457 : decode code 457 = .ok (.iload 5, 2) := by decide +kernel
theorem d_0_459 : decode code 459 = .ok (.if_icmp .eq (5), 3) := by decide +kernel
theorem d_0_462 : decode code 462 = .ok (.iconst (0), 1) := by decide +kernel
theorem d_0_463 : decode code 463 = .ok (.ireturn, 1) := by decide +kernel
theorem d_0_464 : decode code 464 = .ok (.iload 5, 2) := by decide +kernel
theorem d_0_466 : decode code 466 = .ok (.ifCond .ne (15), 3) := by decide +kernel
theorem d_0_469 : decode code 469 = .ok (.aload_n 3, 1) := by decide +kernel
theorem d_0_470 : decode code 470 = .ok (.iconst (0), 1) := by decide +kernel
theorem d_0_471 : decode code 471 = .ok (.laload, 1) := by decide +kernel
theorem d_0_472 : decode code 472 = .ok (.iload 6, 2) := by decide +kernel
theorem d_0_474 : decode code 474 = .ok (.i2l, 1) := by decide +kernel
theorem d_0_475 : decode code 475 = .ok (.lcmp, 1) := by decide +kernel
theorem d_0_476 : decode code 476 = .ok (.ifCond .eq (5), 3) := by decide +kernel
theorem d_0_479 : decode code 479 = .ok (.iconst (0), 1) := by decide +kernel
theorem d_0_480 : decode code 480 = .ok (.ireturn, 1) := by decide +kernel
theorem d_0_481 : decode code 481 = .ok (.goto (491), 3) := by decide +kernel
theorem d_0_484 : decode code 484 = .ok (.aload_n 1, 1) := by decide +kernel
theorem d_0_485 : decode code 485 = .ok (.aload_n 0, 1) := by decide +kernel
theorem d_0_486 : decode code 486 = .ok (.iload 4, 2) := by decide +kernel
theorem d_0_488 : decode code 488 = .ok (.iconst (1), 1) := by decide +kernel
theorem d_0_489 : decode code 489 = .ok (.iadd, 1) := by decide +kernel
theorem d_0_490 : decode code 490 = .ok (.iaload, 1) := by decide +kernel
theorem d_0_491 : decode code 491 = .ok (.aload_n 0, 1) := by decide +kernel
theorem d_0_492 : decode code 492 = .ok (.iload 4, 2) := by decide +kernel
theorem d_0_494 : decode code 494 = .ok (.iconst (2), 1) := by decide +kernel
theorem d_0_495 : decode code 495 = .ok (.iadd, 1) := by decide +kernel
theorem d_0_496 : decode code 496 = .ok (.iaload, 1) := by decide +kernel
theorem d_0_497 : decode code 497 = .ok (.aload_n 3, 1) := by decide +kernel
theorem d_0_498 : decode code 498 = .ok (.invokestatic 115, 3) := by decide +kernel
theorem d_0_501 : decode code 501 = .ok (.istore 5, 2) := by decide +kernel
theorem d_0_503 : decode code 503 = .ok (.aload_n 2, 1) := by decide +kernel
theorem d_0_504 : decode code 504 = .ok (.aload_n 0, 1) := by decide +kernel
theorem d_0_505 : decode code 505 = .ok (.iload 4, 2) := by decide +kernel
theorem d_0_507 : decode code 507 = .ok (.iconst (1), 1) := by decide +kernel
theorem d_0_508 : decode code 508 = .ok (.iadd, 1) := by decide +kernel
theorem d_0_509 : decode code 509 = .ok (.iaload, 1) := by decide +kernel
theorem d_0_510 : decode code 510 = .ok (.aload_n 0, 1) := by decide +kernel
theorem d_0_511 : decode code 511 = .ok (.iload 4, 2) := by decide +kernel
theorem d_0_513 : decode code 513 = .ok (.iconst (2), 1) := by decide +kernel
theorem d_0_514 : decode code 514 = .ok (.iadd, 1) := by decide +kernel
theorem d_0_515 : decode code 515 = .ok (.iaload, 1) := by decide +kernel
theorem d_0_516 : decode code 516 = .ok (.invokevirtual 118, 3) := by decide +kernel
theorem d_0_519 : decode code 519 = .ok (.istore 6, 2) := by decide +kernel
theorem d_0_521 : decode code 521 = .ok (.aload_n 2, 1) := by decide +kernel
theorem d_0_522 : decode code 522 = .ok (.invokevirtual 81, 3) := by decide +kernel
theorem d_0_525 : decode code 525 = .ok (.iload 5, 2) := by decide +kernel
theorem d_0_527 : decode code 527 = .ok (.if_icmp .eq (5), 3) := by decide +kernel
theorem d_0_530 : decode code 530 = .ok (.iconst (0), 1) := by decide +kernel
theorem d_0_531 : decode code 531 = .ok (.ireturn, 1) := by decide +kernel
theorem d_0_532 : decode code 532 = .ok (.iload 5, 2) := by decide +kernel
theorem d_0_534 : decode code 534 = .ok (.ifCond .ne (15), 3) := by decide +kernel
theorem d_0_537 : decode code 537 = .ok (.aload_n 3, 1) := by decide +kernel
theorem d_0_538 : decode code 538 = .ok (.iconst (0), 1) := by decide +kernel
theorem d_0_539 : decode code 539 = .ok (.laload, 1) := by decide +kernel
theorem d_0_540 : decode code 540 = .ok (.iload 6, 2) := by decide +kernel
theorem d_0_542 : decode code 542 = .ok (.i2l, 1) := by decide +kernel
theorem d_0_543 : decode code 543 = .ok (.lcmp, 1) := by decide +kernel
theorem d_0_544 : decode code 544 = .ok (.ifCond .eq (5), 3) := by decide +kernel
theorem d_0_547 : decode code 547 = .ok (.iconst (0), 1) := by decide +kernel
theorem d_0_548 : decode code 548 = .ok (.ireturn, 1) := by decide +kernel
theorem d_0_549 : decode code 549 = .ok (.goto (423), 3) := by decide +kernel
theorem d_0_552 : decode code 552 = .ok (.aload_n 1, 1) := by decide +kernel
theorem d_0_553 : decode code 553 = .ok (.aload_n 0, 1) := by decide +kernel
theorem d_0_554 : decode code 554 = .ok (.iload 4, 2) := by decide +kernel
theorem d_0_556 : decode code 556 = .ok (.iconst (1), 1) := by decide +kernel
theorem d_0_557 : decode code 557 = .ok (.iadd, 1) := by decide +kernel
theorem d_0_558 : decode code 558 = .ok (.iaload, 1) := by decide +kernel
theorem d_0_559 : decode code 559 = .ok (.aload_n 0, 1) := by decide +kernel
theorem d_0_560 : decode code 560 = .ok (.iload 4, 2) := by decide +kernel
theorem d_0_562 : decode code 562 = .ok (.iconst (2), 1) := by decide +kernel
theorem d_0_563 : decode code 563 = .ok (.iadd, 1) := by decide +kernel
theorem d_0_564 : decode code 564 = .ok (.iaload, 1) := by decide +kernel
theorem d_0_565 : decode code 565 = .ok (.aload_n 3, 1) := by decide +kernel
theorem d_0_566 : decode code 566 = .ok (.invokestatic 119, 3) := by decide +kernel
theorem d_0_569 : decode code 569 = .ok (.istore 5, 2) := by decide +kernel
theorem d_0_571 : decode code 571 = .ok (.aload_n 2, 1) := by decide +kernel
theorem d_0_572 : decode code 572 = .ok (.aload_n 0, 1) := by decide +kernel
theorem d_0_573 : decode code 573 = .ok (.iload 4, 2) := by decide +kernel
theorem d_0_575 : decode code 575 = .ok (.iconst (1), 1) := by decide +kernel
theorem d_0_576 : decode code 576 = .ok (.iadd, 1) := by decide +kernel
theorem d_0_577 : decode code 577 = .ok (.iaload, 1) := by decide +kernel
theorem d_0_578 : decode code 578 = .ok (.aload_n 0, 1) := by decide +kernel
theorem d_0_579 : decode code 579 = .ok (.iload 4, 2) := by decide +kernel
theorem d_0_581 : decode code 581 = .ok (.iconst (2), 1) := by decide +kernel
theorem d_0_582 : decode code 582 = .ok (.iadd, 1) := by decide +kernel
theorem d_0_583 : decode code 583 = .ok (.iaload, 1) := by decide +kernel
theorem d_0_584 : decode code 584 = .ok (.invokevirtual 121, 3) := by decide +kernel
theorem d_0_587 : decode code 587 = .ok (.istore 6, 2) := by decide +kernel
theorem d_0_589 : decode code 589 = .ok (.aload_n 2, 1) := by decide +kernel
theorem d_0_590 : decode code 590 = .ok (.invokevirtual 81, 3) := by decide +kernel
theorem d_0_593 : decode code 593 = .ok (.iload 5, 2) := by decide +kernel
theorem d_0_595 : decode code 595 = .ok (.if_icmp .eq (5), 3) := by decide +kernel
theorem d_0_598 : decode code 598 = .ok (.iconst (0), 1) := by decide +kernel
theorem d_0_599 : decode code 599 = .ok (.ireturn, 1) := by decide +kernel
theorem d_0_600 : decode code 600 = .ok (.iload 5, 2) := by decide +kernel
theorem d_0_602 : decode code 602 = .ok (.ifCond .ne (15), 3) := by decide +kernel
theorem d_0_605 : decode code 605 = .ok (.aload_n 3, 1) := by decide +kernel
theorem d_0_606 : decode code 606 = .ok (.iconst (0), 1) := by decide +kernel
theorem d_0_607 : decode code 607 = .ok (.laload, 1) := by decide +kernel
theorem d_0_608 : decode code 608 = .ok (.iload 6, 2) := by decide +kernel
theorem d_0_610 : decode code 610 = .ok (.i2l, 1) := by decide +kernel
theorem d_0_611 : decode code 611 = .ok (.lcmp, 1) := by decide +kernel
theorem d_0_612 : decode code 612 = .ok (.ifCond .eq (5), 3) := by decide +kernel
theorem d_0_615 : decode code 615 = .ok (.iconst (0), 1) := by decide +kernel
theorem d_0_616 : decode code 616 = .ok (.ireturn, 1) := by decide +kernel
theorem d_0_617 : decode code 617 = .ok (.goto (355), 3) := by decide +kernel
theorem d_0_620 : decode code 620 = .ok (.aload_n 1, 1) := by decide +kernel
theorem d_0_621 : decode code 621 = .ok (.aload_n 0, 1) := by decide +kernel
theorem d_0_622 : decode code 622 = .ok (.iload 4, 2) := by decide +kernel
theorem d_0_624 : decode code 624 = .ok (.iconst (1), 1) := by decide +kernel
theorem d_0_625 : decode code 625 = .ok (.iadd, 1) := by decide +kernel
theorem d_0_626 : decode code 626 = .ok (.iaload, 1) := by decide +kernel
theorem d_0_627 : decode code 627 = .ok (.aload_n 3, 1) := by decide +kernel
theorem d_0_628 : decode code 628 = .ok (.invokestatic 122, 3) := by decide +kernel
theorem d_0_631 : decode code 631 = .ok (.istore 5, 2) := by decide +kernel
theorem d_0_633 : decode code 633 = .ok (.aload_n 2, 1) := by decide +kernel
theorem d_0_634 : decode code 634 = .ok (.aload_n 0, 1) := by decide +kernel
theorem d_0_635 : decode code 635 = .ok (.iload 4, 2) := by decide +kernel
theorem d_0_637 : decode code 637 = .ok (.iconst (1), 1) := by decide +kernel
theorem d_0_638 : decode code 638 = .ok (.iadd, 1) := by decide +kernel
theorem d_0_639 : decode code 639 = .ok (.iaload, 1) := by decide +kernel
theorem d_0_640 : decode code 640 = .ok (.invokevirtual 124, 3) := by decide +kernel
theorem d_0_643 : decode code 643 = .ok (.istore 6, 2) := by decide +kernel
theorem d_0_645 : decode code 645 = .ok (.aload_n 2, 1) := by decide +kernel
theorem d_0_646 : decode code 646 = .ok (.invokevirtual 81, 3) := by decide +kernel
theorem d_0_649 : decode code 649 = .ok (.iload 5, 2) := by decide +kernel
theorem d_0_651 : decode code 651 = .ok (.if_icmp .eq (5), 3) := by decide +kernel
theorem d_0_654 : decode code 654 = .ok (.iconst (0), 1) := by decide +kernel
theorem d_0_655 : decode code 655 = .ok (.ireturn, 1) := by decide +kernel
theorem d_0_656 : decode code 656 = .ok (.iload 5, 2) := by decide +kernel
theorem d_0_658 : decode code 658 = .ok (.ifCond .ne (22), 3) := by decide +kernel
theorem d_0_661 : decode code 661 = .ok (.aload_n 3, 1) := by decide +kernel
theorem d_0_662 : decode code 662 = .ok (.iconst (0), 1) := by decide +kernel
theorem d_0_663 : decode code 663 = .ok (.laload, 1) := by decide +kernel
theorem d_0_664 : decode code 664 = .ok (.iload 6, 2) := by decide +kernel
theorem d_0_666 : decode code 666 = .ok (.ifCond .eq (7), 3) := by decide +kernel
theorem d_0_669 : decode code 669 = .ok (.lconst 1, 1) := by decide +kernel
theorem d_0_670 : decode code 670 = .ok (.goto (4), 3) := by decide +kernel
theorem d_0_673 : decode code 673 = .ok (.lconst 0, 1) := by decide +kernel
theorem d_0_674 : decode code 674 = .ok (.lcmp, 1) := by decide +kernel
theorem d_0_675 : decode code 675 = .ok (.ifCond .eq (5), 3) := by decide +kernel
theorem d_0_678 : decode code 678 = .ok (.iconst (0), 1) := by decide +kernel
theorem d_0_679 : decode code 679 = .ok (.ireturn, 1) := by decide +kernel
theorem d_0_680 : decode code 680 = .ok (.goto (292), 3) := by decide +kernel
theorem d_0_683 : decode code 683 = .ok (.aload_n 1, 1) := by decide +kernel
theorem d_0_684 : decode code 684 = .ok (.aload_n 0, 1) := by decide +kernel
theorem d_0_685 : decode code 685 = .ok (.iload 4, 2) := by decide +kernel
theorem d_0_687 : decode code 687 = .ok (.iconst (1), 1) := by decide +kernel
theorem d_0_688 : decode code 688 = .ok (.iadd, 1) := by decide +kernel
theorem d_0_689 : decode code 689 = .ok (.iaload, 1) := by decide +kernel
theorem d_0_690 : decode code 690 = .ok (.aload_n 3, 1) := by decide +kernel
theorem d_0_691 : decode code 691 = .ok (.invokestatic 125, 3) := by decide +kernel
theorem d_0_694 : decode code 694 = .ok (.istore 5, 2) := by decide +kernel
theorem d_0_696 : decode code 696 = .ok (.aload_n 2, 1) := by decide +kernel
theorem d_0_697 : decode code 697 = .ok (.aload_n 0, 1) := by decide +kernel
theorem d_0_698 : decode code 698 = .ok (.iload 4, 2) := by decide +kernel
theorem d_0_700 : decode code 700 = .ok (.iconst (1), 1) := by decide +kernel
theorem d_0_701 : decode code 701 = .ok (.iadd, 1) := by decide +kernel
theorem d_0_702 : decode code 702 = .ok (.iaload, 1) := by decide +kernel
theorem d_0_703 : decode code 703 = .ok (.invokevirtual 127, 3) := by decide +kernel
theorem d_0_706 : decode code 706 = .ok (.istore 6, 2) := by decide +kernel
theorem d_0_708 : decode code 708 = .ok (.aload_n 2, 1) := by decide +kernel
theorem d_0_709 : decode code 709 = .ok (.invokevirtual 81, 3) := by decide +kernel
theorem d_0_712 : decode code 712 = .ok (.iload 5, 2) := by decide +kernel
theorem d_0_714 : decode code 714 = .ok (.if_icmp .eq (5), 3) := by decide +kernel
theorem d_0_717 : decode code 717 = .ok (.iconst (0), 1) := by decide +kernel
theorem d_0_718 : decode code 718 = .ok (.ireturn, 1) := by decide +kernel
theorem d_0_719 : decode code 719 = .ok (.iload 5, 2) := by decide +kernel
theorem d_0_721 : decode code 721 = .ok (.ifCond .ne (15), 3) := by decide +kernel
theorem d_0_724 : decode code 724 = .ok (.aload_n 3, 1) := by decide +kernel
theorem d_0_725 : decode code 725 = .ok (.iconst (0), 1) := by decide +kernel
theorem d_0_726 : decode code 726 = .ok (.laload, 1) := by decide +kernel
theorem d_0_727 : decode code 727 = .ok (.iload 6, 2) := by decide +kernel
theorem d_0_729 : decode code 729 = .ok (.i2l, 1) := by decide +kernel
theorem d_0_730 : decode code 730 = .ok (.lcmp, 1) := by decide +kernel
theorem d_0_731 : decode code 731 = .ok (.ifCond .eq (5), 3) := by decide +kernel
theorem d_0_734 : decode code 734 = .ok (.iconst (0), 1) := by decide +kernel
theorem d_0_735 : decode code 735 = .ok (.ireturn, 1) := by decide +kernel
theorem d_0_736 : decode code 736 = .ok (.goto (236), 3) := by decide +kernel
theorem d_0_739 : decode code 739 = .ok (.aload_n 1, 1) := by decide +kernel
theorem d_0_740 : decode code 740 = .ok (.invokestatic 128, 3) := by decide +kernel
theorem d_0_743 : decode code 743 = .ok (.istore 5, 2) := by decide +kernel
theorem d_0_745 : decode code 745 = .ok (.aload_n 2, 1) := by decide +kernel
theorem d_0_746 : decode code 746 = .ok (.invokevirtual 131, 3) := by decide +kernel
theorem d_0_749 : decode code 749 = .ok (.aload_n 2, 1) := by decide +kernel
theorem d_0_750 : decode code 750 = .ok (.invokevirtual 81, 3) := by decide +kernel
theorem d_0_753 : decode code 753 = .ok (.iload 5, 2) := by decide +kernel
theorem d_0_755 : decode code 755 = .ok (.if_icmp .eq (5), 3) := by decide +kernel
theorem d_0_758 : decode code 758 = .ok (.iconst (0), 1) := by decide +kernel
theorem d_0_759 : decode code 759 = .ok (.ireturn, 1) := by decide +kernel
theorem d_0_760 : decode code 760 = .ok (.goto (212), 3) := by decide +kernel
theorem d_0_763 : decode code 763 = .ok (.aload_n 1, 1) := by decide +kernel
theorem d_0_764 : decode code 764 = .ok (.aload_n 0, 1) := by decide +kernel
theorem d_0_765 : decode code 765 = .ok (.iload 4, 2) := by decide +kernel
theorem d_0_767 : decode code 767 = .ok (.iconst (1), 1) := by decide +kernel
theorem d_0_768 : decode code 768 = .ok (.iadd, 1) := by decide +kernel
theorem d_0_769 : decode code 769 = .ok (.iaload, 1) := by decide +kernel
theorem d_0_770 : decode code 770 = .ok (.aload_n 3, 1) := by decide +kernel
theorem d_0_771 : decode code 771 = .ok (.invokestatic 132, 3) := by decide +kernel
theorem d_0_774 : decode code 774 = .ok (.istore 5, 2) := by decide +kernel
theorem d_0_776 : decode code 776 = .ok (.aload_n 2, 1) := by decide +kernel
theorem d_0_777 : decode code 777 = .ok (.aload_n 0, 1) := by decide +kernel
theorem d_0_778 : decode code 778 = .ok (.iload 4, 2) := by decide +kernel
theorem d_0_780 : decode code 780 = .ok (.iconst (1), 1) := by decide +kernel
theorem d_0_781 : decode code 781 = .ok (.iadd, 1) := by decide +kernel
theorem d_0_782 : decode code 782 = .ok (.iaload, 1) := by decide +kernel
theorem d_0_783 : decode code 783 = .ok (.invokevirtual 134, 3) := by decide +kernel
theorem d_0_786 : decode code 786 = .ok (.istore 6, 2) := by decide +kernel
theorem d_0_788 : decode code 788 = .ok (.aload_n 2, 1) := by decide +kernel
theorem d_0_789 : decode code 789 = .ok (.invokevirtual 81, 3) := by decide +kernel
theorem d_0_792 : decode code 792 = .ok (.iload 5, 2) := by decide +kernel
theorem d_0_794 : decode code 794 = .ok (.if_icmp .eq (5), 3) := by decide +kernel
theorem d_0_797 : decode code 797 = .ok (.iconst (0), 1) := by decide +kernel
theorem d_0_798 : decode code 798 = .ok (.ireturn, 1) := by decide +kernel
theorem d_0_799 : decode code 799 = .ok (.iload 5, 2) := by decide +kernel
theorem d_0_801 : decode code 801 = .ok (.ifCond .ne (22), 3) := by decide +kernel
theorem d_0_804 : decode code 804 = .ok (.aload_n 3, 1) := by decide +kernel
theorem d_0_805 : decode code 805 = .ok (.iconst (0), 1) := by decide +kernel
theorem d_0_806 : decode code 806 = .ok (.laload, 1) := by decide +kernel
theorem d_0_807 : decode code 807 = .ok (.iload 6, 2) := by decide +kernel
theorem d_0_809 : decode code 809 = .ok (.ifCond .eq (7), 3) := by decide +kernel
theorem d_0_812 : decode code 812 = .ok (.lconst 1, 1) := by decide +kernel
theorem d_0_813 : decode code 813 = .ok (.goto (4), 3) := by decide +kernel
theorem d_0_816 : decode code 816 = .ok (.lconst 0, 1) := by decide +kernel
theorem d_0_817 : decode code 817 = .ok (.lcmp, 1) := by decide +kernel
theorem d_0_818 : decode code 818 = .ok (.ifCond .eq (5), 3) := by decide +kernel
theorem d_0_821 : decode code 821 = .ok (.iconst (0), 1) := by decide +kernel
theorem d_0_822 : decode code 822 = .ok (.ireturn, 1) := by decide +kernel
theorem d_0_823 : decode code 823 = .ok (.goto (149), 3) := by decide +kernel
theorem d_0_826 : decode code 826 = .ok (.aload_n 1, 1) := by decide +kernel
theorem d_0_827 : decode code 827 = .ok (.aload_n 3, 1) := by decide +kernel
theorem d_0_828 : decode code 828 = .ok (.invokestatic 135, 3) := by decide +kernel
theorem d_0_831 : decode code 831 = .ok (.istore 5, 2) := by decide +kernel
theorem d_0_833 : decode code 833 = .ok (.aload_n 2, 1) := by decide +kernel
theorem d_0_834 : decode code 834 = .ok (.invokevirtual 137, 3) := by decide +kernel
theorem d_0_837 : decode code 837 = .ok (.istore 6, 2) := by decide +kernel
theorem d_0_839 : decode code 839 = .ok (.aload_n 2, 1) := by decide +kernel
theorem d_0_840 : decode code 840 = .ok (.invokevirtual 81, 3) := by decide +kernel
theorem d_0_843 : decode code 843 = .ok (.iload 5, 2) := by decide +kernel
theorem d_0_845 : decode code 845 = .ok (.if_icmp .eq (5), 3) := by decide +kernel
theorem d_0_848 : decode code 848 = .ok (.iconst (0), 1) := by decide +kernel
theorem d_0_849 : decode code 849 = .ok (.ireturn, 1) := by decide +kernel
theorem d_0_850 : decode code 850 = .ok (.iload 5, 2) := by decide +kernel
theorem d_0_852 : decode code 852 = .ok (.ifCond .ne (22), 3) := by decide +kernel
theorem d_0_855 : decode code 855 = .ok (.aload_n 3, 1) := by decide +kernel
theorem d_0_856 : decode code 856 = .ok (.iconst (0), 1) := by decide +kernel
theorem d_0_857 : decode code 857 = .ok (.laload, 1) := by decide +kernel
theorem d_0_858 : decode code 858 = .ok (.iload 6, 2) := by decide +kernel
theorem d_0_860 : decode code 860 = .ok (.ifCond .eq (7), 3) := by decide +kernel
theorem d_0_863 : decode code 863 = .ok (.lconst 1, 1) := by decide +kernel
theorem d_0_864 : decode code 864 = .ok (.goto (4), 3) := by decide +kernel
theorem d_0_867 : decode code 867 = .ok (.lconst 0, 1) := by decide +kernel
theorem d_0_868 : decode code 868 = .ok (.lcmp, 1) := by decide +kernel
theorem d_0_869 : decode code 869 = .ok (.ifCond .eq (5), 3) := by decide +kernel
theorem d_0_872 : decode code 872 = .ok (.iconst (0), 1) := by decide +kernel
theorem d_0_873 : decode code 873 = .ok (.ireturn, 1) := by decide +kernel
theorem d_0_874 : decode code 874 = .ok (.goto (98), 3) := by decide +kernel
theorem d_0_877 : decode code 877 = .ok (.aload_n 1, 1) := by decide +kernel
theorem d_0_878 : decode code 878 = .ok (.invokevirtual 138, 3) := by decide +kernel
theorem d_0_881 : decode code 881 = .ok (.aload_n 2, 1) := by decide +kernel
theorem d_0_882 : decode code 882 = .ok (.invokevirtual 141, 3) := by decide +kernel
theorem d_0_885 : decode code 885 = .ok (.if_icmp .eq (87), 3) := by decide +kernel
theorem d_0_888 : decode code 888 = .ok (.iconst (0), 1) := by decide +kernel
theorem d_0_889 : decode code 889 = .ok (.ireturn, 1) := by decide +kernel
theorem d_0_890 : decode code 890 = .ok (.aload_n 1, 1) := by decide +kernel
theorem d_0_891 : decode code 891 = .ok (.invokevirtual 142, 3) := by decide +kernel
theorem d_0_894 : decode code 894 = .ok (.aload_n 2, 1) := by decide +kernel
theorem d_0_895 : decode code 895 = .ok (.invokevirtual 145, 3) := by decide +kernel
theorem d_0_898 : decode code 898 = .ok (.if_icmp .eq (74), 3) := by decide +kernel
theorem d_0_901 : decode code 901 = .ok (.iconst (0), 1) := by decide +kernel
theorem d_0_902 : decode code 902 = .ok (.ireturn, 1) := by decide +kernel
theorem d_0_903 : decode code 903 = .ok (.aload_n 1, 1) := by decide +kernel
theorem d_0_904 : decode code 904 = .ok (.invokevirtual 146, 3) := by decide +kernel
theorem d_0_907 : decode code 907 = .ok (.aload_n 2, 1) := by decide +kernel
theorem d_0_908 : decode code 908 = .ok (.invokevirtual 149, 3) := by decide +kernel
theorem d_0_911 : decode code 911 = .ok (.if_icmp .eq (61), 3) := by decide +kernel
theorem d_0_914 : decode code 914 = .ok (.iconst (0), 1) := by decide +kernel
theorem d_0_915 : decode code 915 = .ok (.ireturn, 1) := by decide +kernel
theorem d_0_916 : decode code 916 = .ok (.aload_n 1, 1) := by decide +kernel
theorem d_0_917 : decode code 917 = .ok (.aload_n 0, 1) := by decide +kernel
theorem d_0_918 : decode code 918 = .ok (.iload 4, 2) := by decide +kernel
theorem d_0_920 : decode code 920 = .ok (.iconst (1), 1) := by decide +kernel
theorem d_0_921 : decode code 921 = .ok (.iadd, 1) := by decide +kernel
theorem d_0_922 : decode code 922 = .ok (.iaload, 1) := by decide +kernel
theorem d_0_923 : decode code 923 = .ok (.aload_n 3, 1) := by decide +kernel
theorem d_0_924 : decode code 924 = .ok (.invokestatic 150, 3) := by decide +kernel
theorem d_0_927 : decode code 927 = .ok (.istore 5, 2) := by decide +kernel
theorem d_0_929 : decode code 929 = .ok (.aload_n 2, 1) := by decide +kernel
theorem d_0_930 : decode code 930 = .ok (.aload_n 0, 1) := by decide +kernel
theorem d_0_931 : decode code 931 = .ok (.iload 4, 2) := by decide +kernel
theorem d_0_933 : decode code 933 = .ok (.iconst (1), 1) := by decide +kernel
theorem d_0_934 : decode code 934 = .ok (.iadd, 1) := by decide +kernel
theorem d_0_935 : decode code 935 = .ok (.iaload, 1) := by decide +kernel
theorem d_0_936 : decode code 936 = .ok (.invokevirtual 152, 3) := by decide +kernel
theorem d_0_939 : decode code 939 = .ok (.istore 6, 2) := by decide +kernel
theorem d_0_941 : decode code 941 = .ok (.aload_n 2, 1) := by decide +kernel
theorem d_0_942 : decode code 942 = .ok (.invokevirtual 81, 3) := by decide +kernel
theorem d_0_945 : decode code 945 = .ok (.iload 5, 2) := by decide +kernel
theorem d_0_947 : decode code 947 = .ok (.if_icmp .eq (5), 3) := by decide +kernel
theorem d_0_950 : decode code 950 = .ok (.iconst (0), 1) := by decide +kernel
theorem d_0_951 : decode code 951 = .ok (.ireturn, 1) := by decide +kernel
theorem d_0_952 : decode code 952 = .ok (.iload 5, 2) := by decide +kernel
theorem d_0_954 : decode code 954 = .ok (.ifCond .ne (15), 3) := by decide +kernel
theorem d_0_957 : decode code 957 = .ok (.aload_n 3, 1) := by decide +kernel
theorem d_0_958 : decode code 958 = .ok (.iconst (0), 1) := by decide +kernel
theorem d_0_959 : decode code 959 = .ok (.laload, 1) := by decide +kernel
theorem d_0_960 : decode code 960 = .ok (.iload 6, 2) := by decide +kernel
theorem d_0_962 : decode code 962 = .ok (.i2l, 1) := by decide +kernel
theorem d_0_963 : decode code 963 = .ok (.lcmp, 1) := by decide +kernel
theorem d_0_964 : decode code 964 = .ok (.ifCond .eq (5), 3) := by decide +kernel
theorem d_0_967 : decode code 967 = .ok (.iconst (0), 1) := by decide +kernel
theorem d_0_968 : decode code 968 = .ok (.ireturn, 1) := by decide +kernel
theorem d_0_969 : decode code 969 = .ok (.goto (3), 3) := by decide +kernel
theorem d_0_972 : decode code 972 = .ok (.iinc 4 (4), 3) := by decide +kernel
theorem d_0_975 : decode code 975 = .ok (.goto (-932), 3) := by decide +kernel
theorem d_0_978 : decode code 978 = .ok (.iconst (1), 1) := by decide +kernel
theorem d_0_979 : decode code 979 = .ok (.ireturn, 1) := by decide +kernel
theorem it_0_0 (Ls : Nat) (xs : Nat → Int32) : xPI Ls xs md_0 0 (.inl (xs_nw 600003 7302198 0 5 [.null, .null, .null, .null, .int 0] 3)) := by
  exact xs_nw_ok d_0_0 (C := R_0) (T := T_0) (ty0 := Y_0) rfl in_0 ty_0 tw_19 tw_20 tw_1 (df_0)
theorem it_0_3 (Ls : Nat) (xs : Nat → Int32) : xPI Ls xs md_0 3 (.inl (xs_dup 4)) := by
  exact xs_dup_ok d_0_3
theorem it_0_4 (Ls : Nat) (xs : Nat → Int32) : xPI Ls xs md_0 4 (.inl (xs_al 0 5)) := by
  exact xs_aload_n_ok d_0_4 rfl
theorem it_0_5 (Ls : Nat) (xs : Nat → Int32) : xPI Ls xs md_0 5 (.inl (xs_c (0) 6)) := by
  exact xs_iconst_ok d_0_5 (by decide)
theorem it_0_6 (Ls : Nat) (xs : Nat → Int32) : xPI Ls xs md_0 6 (.inr (.inl (1, 2, 0, []))) := by
  exact ⟨md_1, rfl, tw_0, by decide, ⟨by decide, by decide⟩, Or.inl ⟨rfl, rfl, 65, d_0_6, tw_257, tw_258, by decide +kernel⟩⟩
theorem it_0_9 (Ls : Nat) (xs : Nat → Int32) : xPI Ls xs md_0 9 (.inl (xs_al 0 10)) := by
  exact xs_aload_n_ok d_0_9 rfl
theorem it_0_10 (Ls : Nat) (xs : Nat → Int32) : xPI Ls xs md_0 10 (.inl (xs_c (1) 11)) := by
  exact xs_iconst_ok d_0_10 (by decide)
theorem it_0_11 (Ls : Nat) (xs : Nat → Int32) : xPI Ls xs md_0 11 (.inr (.inl (1, 2, 0, []))) := by
  exact ⟨md_1, rfl, tw_0, by decide, ⟨by decide, by decide⟩, Or.inl ⟨rfl, rfl, 65, d_0_11, tw_257, tw_258, by decide +kernel⟩⟩
theorem it_0_14 (Ls : Nat) (xs : Nat → Int32) : xPI Ls xs md_0 14 (.inr (.inl (15, 3, 1, []))) := by
  exact ⟨md_15, rfl, tw_1, by decide, ⟨by decide, by decide⟩, Or.inr (Or.inl ⟨rfl, rfl, rfl, rfl, rfl, 71, 2, rfl, d_0_14, tw_21, tw_22, by decide +kernel⟩)⟩
theorem it_0_17 (Ls : Nat) (xs : Nat → Int32) : xPI Ls xs md_0 17 (.inl (xs_as 7 1 18)) := by
  exact xs_astore_n_ok d_0_17 rfl
theorem it_0_18 (Ls : Nat) (xs : Nat → Int32) : xPI Ls xs md_0 18 (.inl (xs_nw 600003 7302198 6 29 [.int 0, .int 0, .int 0, .int 0, .int 0, .null, .null, .null, .null, .null, .int 0, .null, .null, .null, .null, .int 0, .int 0, .null, .null, .int 0, .int 0, .int 0, .null, .int 0, .int 0, .null, .int 0, .null, .int 0] 21)) := by
  exact xs_nw_ok d_0_18 (C := R_6) (T := T_6) (ty0 := Y_6) rfl in_6 ty_6 tw_781 tw_782 tw_7 (df_6)
theorem it_0_21 (Ls : Nat) (xs : Nat → Int32) : xPI Ls xs md_0 21 (.inl (xs_dup 22)) := by
  exact xs_dup_ok d_0_21
theorem it_0_22 (Ls : Nat) (xs : Nat → Int32) : xPI Ls xs md_0 22 (.inl (xs_al 0 23)) := by
  exact xs_aload_n_ok d_0_22 rfl
theorem it_0_23 (Ls : Nat) (xs : Nat → Int32) : xPI Ls xs md_0 23 (.inl (xs_c (0) 24)) := by
  exact xs_iconst_ok d_0_23 (by decide)
theorem it_0_24 (Ls : Nat) (xs : Nat → Int32) : xPI Ls xs md_0 24 (.inr (.inl (1, 2, 0, []))) := by
  exact ⟨md_1, rfl, tw_0, by decide, ⟨by decide, by decide⟩, Or.inl ⟨rfl, rfl, 65, d_0_24, tw_257, tw_258, by decide +kernel⟩⟩
theorem it_0_27 (Ls : Nat) (xs : Nat → Int32) : xPI Ls xs md_0 27 (.inl (xs_al 0 28)) := by
  exact xs_aload_n_ok d_0_27 rfl
theorem it_0_28 (Ls : Nat) (xs : Nat → Int32) : xPI Ls xs md_0 28 (.inl (xs_c (1) 29)) := by
  exact xs_iconst_ok d_0_28 (by decide)
theorem it_0_29 (Ls : Nat) (xs : Nat → Int32) : xPI Ls xs md_0 29 (.inr (.inl (1, 2, 0, []))) := by
  exact ⟨md_1, rfl, tw_0, by decide, ⟨by decide, by decide⟩, Or.inl ⟨rfl, rfl, 65, d_0_29, tw_257, tw_258, by decide +kernel⟩⟩
theorem it_0_32 (Ls : Nat) (xs : Nat → Int32) : xPI Ls xs md_0 32 (.inr (.inl (66, 3, 1, []))) := by
  exact ⟨md_66, rfl, tw_7, by decide, ⟨by decide, by decide⟩, Or.inr (Or.inl ⟨rfl, rfl, rfl, rfl, rfl, 76, 2, rfl, d_0_32, tw_783, tw_784, by decide +kernel⟩)⟩
theorem it_0_35 (Ls : Nat) (xs : Nat → Int32) : xPI Ls xs md_0 35 (.inl (xs_as 7 2 36)) := by
  exact xs_astore_n_ok d_0_35 rfl
theorem it_0_36 (Ls : Nat) (xs : Nat → Int32) : xPI Ls xs md_0 36 (.inl (xs_c (1) 37)) := by
  exact xs_iconst_ok d_0_36 (by decide)
theorem it_0_37 (Ls : Nat) (xs : Nat → Int32) : xPI Ls xs md_0 37 (.inl (xs_naj 600003 7302198 39)) := by
  exact xs_naj_ok d_0_37 tw_875
theorem it_0_39 (Ls : Nat) (xs : Nat → Int32) : xPI Ls xs md_0 39 (.inl (xs_as 7 3 40)) := by
  exact xs_astore_n_ok d_0_39 rfl
theorem it_0_40 (Ls : Nat) (xs : Nat → Int32) : xPI Ls xs md_0 40 (.inl (xs_c (2) 41)) := by
  exact xs_iconst_ok d_0_40 (by decide)
theorem it_0_41 (Ls : Nat) (xs : Nat → Int32) : xPI Ls xs md_0 41 (.inl (xs_is 7 4 43)) := by
  exact xs_istore_ok d_0_41
theorem it_0_43 (Ls : Nat) (xs : Nat → Int32) : xPI Ls xs md_0 43 (.inl (xs_il 4 45)) := by
  exact xs_iload_ok d_0_43
theorem it_0_45 (Ls : Nat) (xs : Nat → Int32) : xPI Ls xs md_0 45 (.inl (xs_al 0 46)) := by
  exact xs_aload_n_ok d_0_45 rfl
theorem it_0_46 (Ls : Nat) (xs : Nat → Int32) : xPI Ls xs md_0 46 (.inl (xs_len Ls 47)) := by
  exact xs_len_ok d_0_46
theorem it_0_47 (Ls : Nat) (xs : Nat → Int32) : xPI Ls xs md_0 47 (.inl (xs_c (4) 48)) := by
  exact xs_iconst_ok d_0_47 (by decide)
theorem it_0_48 (Ls : Nat) (xs : Nat → Int32) : xPI Ls xs md_0 48 (.inl (xs_isub 49)) := by
  exact xs_isub_ok d_0_48
theorem it_0_49 (Ls : Nat) (xs : Nat → Int32) : xPI Ls xs md_0 49 (.inl (xs_ic_gt 978 52)) := by
  exact xs_ic_gt_ok d_0_49 (by decide)
theorem it_0_52 (Ls : Nat) (xs : Nat → Int32) : xPI Ls xs md_0 52 (.inl (xs_al 0 53)) := by
  exact xs_aload_n_ok d_0_52 rfl
theorem it_0_53 (Ls : Nat) (xs : Nat → Int32) : xPI Ls xs md_0 53 (.inl (xs_il 4 55)) := by
  exact xs_iload_ok d_0_53
theorem it_0_55 (Ls : Nat) (xs : Nat → Int32) : xPI Ls xs md_0 55 (.inl (xs_ia Ls xs 56)) := by
  exact xs_ia_ok d_0_55
theorem it_0_56 (Ls : Nat) (xs : Nat → Int32) : xPI Ls xs md_0 56 (.inl (xs_c (31) 58)) := by
  exact xs_bipush_ok d_0_56 (by decide)
theorem it_0_58 (Ls : Nat) (xs : Nat → Int32) : xPI Ls xs md_0 58 (.inl (xs_iand 59)) := by
  exact xs_iand_ok d_0_58
theorem it_0_59 (Ls : Nat) (xs : Nat → Int32) : xPI Ls xs md_0 59 (.inl (xs_ts [152, 208, 244, 255, 266, 310, 335, 348, 404, 484, 552, 620, 683, 739, 763, 826, 877, 890, 903, 916] 972)) := by
  exact xs_ts_ok d_0_59 (by decide) (by decide) (by decide)
theorem it_0_152 (Ls : Nat) (xs : Nat → Int32) : xPI Ls xs md_0 152 (.inl (xs_al 1 153)) := by
  exact xs_aload_n_ok d_0_152 rfl
theorem it_0_153 (Ls : Nat) (xs : Nat → Int32) : xPI Ls xs md_0 153 (.inl (xs_al 0 154)) := by
  exact xs_aload_n_ok d_0_153 rfl
theorem it_0_154 (Ls : Nat) (xs : Nat → Int32) : xPI Ls xs md_0 154 (.inl (xs_il 4 156)) := by
  exact xs_iload_ok d_0_154
theorem it_0_156 (Ls : Nat) (xs : Nat → Int32) : xPI Ls xs md_0 156 (.inl (xs_c (1) 157)) := by
  exact xs_iconst_ok d_0_156 (by decide)
theorem it_0_157 (Ls : Nat) (xs : Nat → Int32) : xPI Ls xs md_0 157 (.inl (xs_iadd 158)) := by
  exact xs_iadd_ok d_0_157
theorem it_0_158 (Ls : Nat) (xs : Nat → Int32) : xPI Ls xs md_0 158 (.inl (xs_ia Ls xs 159)) := by
  exact xs_ia_ok d_0_158
theorem it_0_159 (Ls : Nat) (xs : Nat → Int32) : xPI Ls xs md_0 159 (.inl (xs_al 3 160)) := by
  exact xs_aload_n_ok d_0_159 rfl
theorem it_0_160 (Ls : Nat) (xs : Nat → Int32) : xPI Ls xs md_0 160 (.inr (.inl (2, 3, 0, []))) := by
  exact ⟨md_2, rfl, tw_0, by decide, ⟨by decide, by decide⟩, Or.inl ⟨rfl, rfl, 77, d_0_160, tw_260, tw_261, by decide +kernel⟩⟩
theorem it_0_163 (Ls : Nat) (xs : Nat → Int32) : xPI Ls xs md_0 163 (.inl (xs_is 7 5 165)) := by
  exact xs_istore_ok d_0_163
theorem it_0_165 (Ls : Nat) (xs : Nat → Int32) : xPI Ls xs md_0 165 (.inl (xs_al 2 166)) := by
  exact xs_aload_n_ok d_0_165 rfl
theorem it_0_166 (Ls : Nat) (xs : Nat → Int32) : xPI Ls xs md_0 166 (.inl (xs_al 0 167)) := by
  exact xs_aload_n_ok d_0_166 rfl
theorem it_0_167 (Ls : Nat) (xs : Nat → Int32) : xPI Ls xs md_0 167 (.inl (xs_il 4 169)) := by
  exact xs_iload_ok d_0_167
theorem it_0_169 (Ls : Nat) (xs : Nat → Int32) : xPI Ls xs md_0 169 (.inl (xs_c (1) 170)) := by
  exact xs_iconst_ok d_0_169 (by decide)
theorem it_0_170 (Ls : Nat) (xs : Nat → Int32) : xPI Ls xs md_0 170 (.inl (xs_iadd 171)) := by
  exact xs_iadd_ok d_0_170
theorem it_0_171 (Ls : Nat) (xs : Nat → Int32) : xPI Ls xs md_0 171 (.inl (xs_ia Ls xs 172)) := by
  exact xs_ia_ok d_0_171
theorem it_0_172 (Ls : Nat) (xs : Nat → Int32) : xPI Ls xs md_0 172 (.inr (.inl (72, 2, 8, []))) := by
  exact ⟨md_72, rfl, tw_7, by decide, ⟨by decide, by decide⟩, Or.inr (Or.inr ⟨6, R_6, T_6, N_6, 80, 1, rfl, rfl, rfl, rfl, d_0_172, tw_880, tw_881, tw_882, by decide +kernel, (fun x q h => by cases h)⟩)⟩
theorem it_0_175 (Ls : Nat) (xs : Nat → Int32) : xPI Ls xs md_0 175 (.inl (xs_is 7 6 177)) := by
  exact xs_istore_ok d_0_175
theorem it_0_177 (Ls : Nat) (xs : Nat → Int32) : xPI Ls xs md_0 177 (.inl (xs_al 2 178)) := by
  exact xs_aload_n_ok d_0_177 rfl
theorem it_0_178 (Ls : Nat) (xs : Nat → Int32) : xPI Ls xs md_0 178 (.inr (.inl (67, 1, 8, []))) := by
  exact ⟨md_67, rfl, tw_7, by decide, ⟨by decide, by decide⟩, Or.inr (Or.inr ⟨6, R_6, T_6, N_6, 81, 0, rfl, rfl, rfl, rfl, d_0_178, tw_876, tw_877, tw_878, by decide +kernel, (fun x q h => by cases h)⟩)⟩
theorem it_0_181 (Ls : Nat) (xs : Nat → Int32) : xPI Ls xs md_0 181 (.inl (xs_il 5 183)) := by
  exact xs_iload_ok d_0_181
theorem it_0_183 (Ls : Nat) (xs : Nat → Int32) : xPI Ls xs md_0 183 (.inl (xs_ic_eq 188 186)) := by
  exact xs_ic_eq_ok d_0_183 (by decide)
theorem it_0_186 (Ls : Nat) (xs : Nat → Int32) : xPI Ls xs md_0 186 (.inl (xs_c (0) 187)) := by
  exact xs_iconst_ok d_0_186 (by decide)
theorem it_0_187 (Ls : Nat) (xs : Nat → Int32) : xPI Ls xs md_0 187 (.inr (.inr 2)) := by
  exact ⟨rfl, d_0_187⟩
theorem it_0_188 (Ls : Nat) (xs : Nat → Int32) : xPI Ls xs md_0 188 (.inl (xs_il 5 190)) := by
  exact xs_iload_ok d_0_188
theorem it_0_190 (Ls : Nat) (xs : Nat → Int32) : xPI Ls xs md_0 190 (.inl (xs_if_ne 205 193)) := by
  exact xs_if_ne_ok d_0_190 (by decide)
theorem it_0_193 (Ls : Nat) (xs : Nat → Int32) : xPI Ls xs md_0 193 (.inl (xs_al 3 194)) := by
  exact xs_aload_n_ok d_0_193 rfl
theorem it_0_194 (Ls : Nat) (xs : Nat → Int32) : xPI Ls xs md_0 194 (.inl (xs_c (0) 195)) := by
  exact xs_iconst_ok d_0_194 (by decide)
theorem it_0_195 (Ls : Nat) (xs : Nat → Int32) : xPI Ls xs md_0 195 (.inl (xs_la 196)) := by
  exact xs_la_ok d_0_195
theorem it_0_196 (Ls : Nat) (xs : Nat → Int32) : xPI Ls xs md_0 196 (.inl (xs_il 6 198)) := by
  exact xs_iload_ok d_0_196
theorem it_0_198 (Ls : Nat) (xs : Nat → Int32) : xPI Ls xs md_0 198 (.inl (xs_i2l 199)) := by
  exact xs_i2l_ok d_0_198
theorem it_0_199 (Ls : Nat) (xs : Nat → Int32) : xPI Ls xs md_0 199 (.inl (xs_lcmp 200)) := by
  exact xs_lcmp_ok d_0_199
theorem it_0_200 (Ls : Nat) (xs : Nat → Int32) : xPI Ls xs md_0 200 (.inl (xs_if_eq 205 203)) := by
  exact xs_if_eq_ok d_0_200 (by decide)
theorem it_0_203 (Ls : Nat) (xs : Nat → Int32) : xPI Ls xs md_0 203 (.inl (xs_c (0) 204)) := by
  exact xs_iconst_ok d_0_203 (by decide)
theorem it_0_204 (Ls : Nat) (xs : Nat → Int32) : xPI Ls xs md_0 204 (.inr (.inr 2)) := by
  exact ⟨rfl, d_0_204⟩
theorem it_0_205 (Ls : Nat) (xs : Nat → Int32) : xPI Ls xs md_0 205 (.inl (xs_goto 972)) := by
  exact xs_goto_ok d_0_205 (by decide)
theorem it_0_208 (Ls : Nat) (xs : Nat → Int32) : xPI Ls xs md_0 208 (.inl (xs_al 1 209)) := by
  exact xs_aload_n_ok d_0_208 rfl
theorem it_0_209 (Ls : Nat) (xs : Nat → Int32) : xPI Ls xs md_0 209 (.inl (xs_al 0 210)) := by
  exact xs_aload_n_ok d_0_209 rfl
theorem it_0_210 (Ls : Nat) (xs : Nat → Int32) : xPI Ls xs md_0 210 (.inl (xs_il 4 212)) := by
  exact xs_iload_ok d_0_210
theorem it_0_212 (Ls : Nat) (xs : Nat → Int32) : xPI Ls xs md_0 212 (.inl (xs_c (1) 213)) := by
  exact xs_iconst_ok d_0_212 (by decide)
theorem it_0_213 (Ls : Nat) (xs : Nat → Int32) : xPI Ls xs md_0 213 (.inl (xs_iadd 214)) := by
  exact xs_iadd_ok d_0_213
theorem it_0_214 (Ls : Nat) (xs : Nat → Int32) : xPI Ls xs md_0 214 (.inl (xs_ia Ls xs 215)) := by
  exact xs_ia_ok d_0_214
theorem it_0_215 (Ls : Nat) (xs : Nat → Int32) : xPI Ls xs md_0 215 (.inr (.inl (3, 2, 0, []))) := by
  exact ⟨md_3, rfl, tw_0, by decide, ⟨by decide, by decide⟩, Or.inl ⟨rfl, rfl, 84, d_0_215, tw_367, tw_368, by decide +kernel⟩⟩
theorem it_0_218 (Ls : Nat) (xs : Nat → Int32) : xPI Ls xs md_0 218 (.inl (xs_is 7 5 220)) := by
  exact xs_istore_ok d_0_218
theorem it_0_220 (Ls : Nat) (xs : Nat → Int32) : xPI Ls xs md_0 220 (.inl (xs_al 2 221)) := by
  exact xs_aload_n_ok d_0_220 rfl
theorem it_0_221 (Ls : Nat) (xs : Nat → Int32) : xPI Ls xs md_0 221 (.inl (xs_al 0 222)) := by
  exact xs_aload_n_ok d_0_221 rfl
theorem it_0_222 (Ls : Nat) (xs : Nat → Int32) : xPI Ls xs md_0 222 (.inl (xs_il 4 224)) := by
  exact xs_iload_ok d_0_222
theorem it_0_224 (Ls : Nat) (xs : Nat → Int32) : xPI Ls xs md_0 224 (.inl (xs_c (1) 225)) := by
  exact xs_iconst_ok d_0_224 (by decide)
theorem it_0_225 (Ls : Nat) (xs : Nat → Int32) : xPI Ls xs md_0 225 (.inl (xs_iadd 226)) := by
  exact xs_iadd_ok d_0_225
theorem it_0_226 (Ls : Nat) (xs : Nat → Int32) : xPI Ls xs md_0 226 (.inl (xs_ia Ls xs 227)) := by
  exact xs_ia_ok d_0_226
theorem it_0_227 (Ls : Nat) (xs : Nat → Int32) : xPI Ls xs md_0 227 (.inr (.inl (73, 2, 8, []))) := by
  exact ⟨md_73, rfl, tw_7, by decide, ⟨by decide, by decide⟩, Or.inr (Or.inr ⟨6, R_6, T_6, N_6, 87, 1, rfl, rfl, rfl, rfl, d_0_227, tw_911, tw_912, tw_913, by decide +kernel, (fun x q h => by cases h)⟩)⟩
theorem it_0_230 (Ls : Nat) (xs : Nat → Int32) : xPI Ls xs md_0 230 (.inl (xs_al 2 231)) := by
  exact xs_aload_n_ok d_0_230 rfl
theorem it_0_231 (Ls : Nat) (xs : Nat → Int32) : xPI Ls xs md_0 231 (.inr (.inl (67, 1, 8, []))) := by
  exact ⟨md_67, rfl, tw_7, by decide, ⟨by decide, by decide⟩, Or.inr (Or.inr ⟨6, R_6, T_6, N_6, 81, 0, rfl, rfl, rfl, rfl, d_0_231, tw_876, tw_877, tw_878, by decide +kernel, (fun x q h => by cases h)⟩)⟩
theorem it_0_234 (Ls : Nat) (xs : Nat → Int32) : xPI Ls xs md_0 234 (.inl (xs_il 5 236)) := by
  exact xs_iload_ok d_0_234
theorem it_0_236 (Ls : Nat) (xs : Nat → Int32) : xPI Ls xs md_0 236 (.inl (xs_ic_eq 241 239)) := by
  exact xs_ic_eq_ok d_0_236 (by decide)
theorem it_0_239 (Ls : Nat) (xs : Nat → Int32) : xPI Ls xs md_0 239 (.inl (xs_c (0) 240)) := by
  exact xs_iconst_ok d_0_239 (by decide)
theorem it_0_240 (Ls : Nat) (xs : Nat → Int32) : xPI Ls xs md_0 240 (.inr (.inr 2)) := by
  exact ⟨rfl, d_0_240⟩
theorem it_0_241 (Ls : Nat) (xs : Nat → Int32) : xPI Ls xs md_0 241 (.inl (xs_goto 972)) := by
  exact xs_goto_ok d_0_241 (by decide)
theorem it_0_244 (Ls : Nat) (xs : Nat → Int32) : xPI Ls xs md_0 244 (.inl (xs_al 1 245)) := by
  exact xs_aload_n_ok d_0_244 rfl
theorem it_0_245 (Ls : Nat) (xs : Nat → Int32) : xPI Ls xs md_0 245 (.inr (.inl (18, 1, 2, []))) := by
  exact ⟨md_18, rfl, tw_1, by decide, ⟨by decide, by decide⟩, Or.inr (Or.inr ⟨0, R_0, T_0, N_0, 88, 0, rfl, rfl, rfl, rfl, d_0_245, tw_193, tw_194, tw_195, by decide +kernel, (fun x q h => by cases h)⟩)⟩
theorem it_0_248 (Ls : Nat) (xs : Nat → Int32) : xPI Ls xs md_0 248 (.inl (xs_al 2 249)) := by
  exact xs_aload_n_ok d_0_248 rfl
theorem it_0_249 (Ls : Nat) (xs : Nat → Int32) : xPI Ls xs md_0 249 (.inr (.inl (74, 1, 8, []))) := by
  exact ⟨md_74, rfl, tw_7, by decide, ⟨by decide, by decide⟩, Or.inr (Or.inr ⟨6, R_6, T_6, N_6, 91, 0, rfl, rfl, rfl, rfl, d_0_249, tw_915, tw_916, tw_917, by decide +kernel, (fun x q h => by cases h)⟩)⟩
theorem it_0_252 (Ls : Nat) (xs : Nat → Int32) : xPI Ls xs md_0 252 (.inl (xs_goto 972)) := by
  exact xs_goto_ok d_0_252 (by decide)
theorem it_0_255 (Ls : Nat) (xs : Nat → Int32) : xPI Ls xs md_0 255 (.inl (xs_al 1 256)) := by
  exact xs_aload_n_ok d_0_255 rfl
theorem it_0_256 (Ls : Nat) (xs : Nat → Int32) : xPI Ls xs md_0 256 (.inr (.inl (19, 1, 2, []))) := by
  exact ⟨md_19, rfl, tw_1, by decide, ⟨by decide, by decide⟩, Or.inr (Or.inr ⟨0, R_0, T_0, N_0, 92, 0, rfl, rfl, rfl, rfl, d_0_256, tw_201, tw_202, tw_203, by decide +kernel, (fun x q h => by cases h)⟩)⟩
theorem it_0_259 (Ls : Nat) (xs : Nat → Int32) : xPI Ls xs md_0 259 (.inl (xs_al 2 260)) := by
  exact xs_aload_n_ok d_0_259 rfl
theorem it_0_260 (Ls : Nat) (xs : Nat → Int32) : xPI Ls xs md_0 260 (.inr (.inl (75, 1, 8, []))) := by
  exact ⟨md_75, rfl, tw_7, by decide, ⟨by decide, by decide⟩, Or.inr (Or.inr ⟨6, R_6, T_6, N_6, 95, 0, rfl, rfl, rfl, rfl, d_0_260, tw_919, tw_920, tw_921, by decide +kernel, (fun x q h => by cases h)⟩)⟩
theorem it_0_263 (Ls : Nat) (xs : Nat → Int32) : xPI Ls xs md_0 263 (.inl (xs_goto 972)) := by
  exact xs_goto_ok d_0_263 (by decide)
theorem it_0_266 (Ls : Nat) (xs : Nat → Int32) : xPI Ls xs md_0 266 (.inl (xs_al 1 267)) := by
  exact xs_aload_n_ok d_0_266 rfl
theorem it_0_267 (Ls : Nat) (xs : Nat → Int32) : xPI Ls xs md_0 267 (.inl (xs_al 3 268)) := by
  exact xs_aload_n_ok d_0_267 rfl
theorem it_0_268 (Ls : Nat) (xs : Nat → Int32) : xPI Ls xs md_0 268 (.inr (.inl (4, 2, 0, []))) := by
  exact ⟨md_4, rfl, tw_0, by decide, ⟨by decide, by decide⟩, Or.inl ⟨rfl, rfl, 96, d_0_268, tw_388, tw_389, by decide +kernel⟩⟩
theorem it_0_271 (Ls : Nat) (xs : Nat → Int32) : xPI Ls xs md_0 271 (.inl (xs_is 7 5 273)) := by
  exact xs_istore_ok d_0_271
theorem it_0_273 (Ls : Nat) (xs : Nat → Int32) : xPI Ls xs md_0 273 (.inl (xs_al 2 274)) := by
  exact xs_aload_n_ok d_0_273 rfl
theorem it_0_274 (Ls : Nat) (xs : Nat → Int32) : xPI Ls xs md_0 274 (.inr (.inl (82, 1, 8, []))) := by
  exact ⟨md_82, rfl, tw_7, by decide, ⟨by decide, by decide⟩, Or.inr (Or.inr ⟨6, R_6, T_6, N_6, 99, 0, rfl, rfl, rfl, rfl, d_0_274, tw_940, tw_941, tw_942, by decide +kernel, (fun x q h => by cases h)⟩)⟩
theorem it_0_277 (Ls : Nat) (xs : Nat → Int32) : xPI Ls xs md_0 277 (.inl (xs_is 7 6 279)) := by
  exact xs_istore_ok d_0_277
theorem it_0_279 (Ls : Nat) (xs : Nat → Int32) : xPI Ls xs md_0 279 (.inl (xs_al 2 280)) := by
  exact xs_aload_n_ok d_0_279 rfl
theorem it_0_280 (Ls : Nat) (xs : Nat → Int32) : xPI Ls xs md_0 280 (.inr (.inl (67, 1, 8, []))) := by
  exact ⟨md_67, rfl, tw_7, by decide, ⟨by decide, by decide⟩, Or.inr (Or.inr ⟨6, R_6, T_6, N_6, 81, 0, rfl, rfl, rfl, rfl, d_0_280, tw_876, tw_877, tw_878, by decide +kernel, (fun x q h => by cases h)⟩)⟩
theorem it_0_283 (Ls : Nat) (xs : Nat → Int32) : xPI Ls xs md_0 283 (.inl (xs_il 5 285)) := by
  exact xs_iload_ok d_0_283
theorem it_0_285 (Ls : Nat) (xs : Nat → Int32) : xPI Ls xs md_0 285 (.inl (xs_ic_eq 290 288)) := by
  exact xs_ic_eq_ok d_0_285 (by decide)
theorem it_0_288 (Ls : Nat) (xs : Nat → Int32) : xPI Ls xs md_0 288 (.inl (xs_c (0) 289)) := by
  exact xs_iconst_ok d_0_288 (by decide)
theorem it_0_289 (Ls : Nat) (xs : Nat → Int32) : xPI Ls xs md_0 289 (.inr (.inr 2)) := by
  exact ⟨rfl, d_0_289⟩
theorem it_0_290 (Ls : Nat) (xs : Nat → Int32) : xPI Ls xs md_0 290 (.inl (xs_il 5 292)) := by
  exact xs_iload_ok d_0_290
theorem it_0_292 (Ls : Nat) (xs : Nat → Int32) : xPI Ls xs md_0 292 (.inl (xs_if_ne 307 295)) := by
  exact xs_if_ne_ok d_0_292 (by decide)
theorem it_0_295 (Ls : Nat) (xs : Nat → Int32) : xPI Ls xs md_0 295 (.inl (xs_al 3 296)) := by
  exact xs_aload_n_ok d_0_295 rfl
theorem it_0_296 (Ls : Nat) (xs : Nat → Int32) : xPI Ls xs md_0 296 (.inl (xs_c (0) 297)) := by
  exact xs_iconst_ok d_0_296 (by decide)
theorem it_0_297 (Ls : Nat) (xs : Nat → Int32) : xPI Ls xs md_0 297 (.inl (xs_la 298)) := by
  exact xs_la_ok d_0_297
theorem it_0_298 (Ls : Nat) (xs : Nat → Int32) : xPI Ls xs md_0 298 (.inl (xs_il 6 300)) := by
  exact xs_iload_ok d_0_298
theorem it_0_300 (Ls : Nat) (xs : Nat → Int32) : xPI Ls xs md_0 300 (.inl (xs_i2l 301)) := by
  exact xs_i2l_ok d_0_300
theorem it_0_301 (Ls : Nat) (xs : Nat → Int32) : xPI Ls xs md_0 301 (.inl (xs_lcmp 302)) := by
  exact xs_lcmp_ok d_0_301
theorem it_0_302 (Ls : Nat) (xs : Nat → Int32) : xPI Ls xs md_0 302 (.inl (xs_if_eq 307 305)) := by
  exact xs_if_eq_ok d_0_302 (by decide)
theorem it_0_305 (Ls : Nat) (xs : Nat → Int32) : xPI Ls xs md_0 305 (.inl (xs_c (0) 306)) := by
  exact xs_iconst_ok d_0_305 (by decide)
theorem it_0_306 (Ls : Nat) (xs : Nat → Int32) : xPI Ls xs md_0 306 (.inr (.inr 2)) := by
  exact ⟨rfl, d_0_306⟩
theorem it_0_307 (Ls : Nat) (xs : Nat → Int32) : xPI Ls xs md_0 307 (.inl (xs_goto 972)) := by
  exact xs_goto_ok d_0_307 (by decide)
theorem it_0_310 (Ls : Nat) (xs : Nat → Int32) : xPI Ls xs md_0 310 (.inl (xs_al 1 311)) := by
  exact xs_aload_n_ok d_0_310 rfl
theorem it_0_311 (Ls : Nat) (xs : Nat → Int32) : xPI Ls xs md_0 311 (.inl (xs_al 0 312)) := by
  exact xs_aload_n_ok d_0_311 rfl
theorem it_0_312 (Ls : Nat) (xs : Nat → Int32) : xPI Ls xs md_0 312 (.inl (xs_il 4 314)) := by
  exact xs_iload_ok d_0_312
theorem it_0_314 (Ls : Nat) (xs : Nat → Int32) : xPI Ls xs md_0 314 (.inl (xs_c (1) 315)) := by
  exact xs_iconst_ok d_0_314 (by decide)
theorem it_0_315 (Ls : Nat) (xs : Nat → Int32) : xPI Ls xs md_0 315 (.inl (xs_iadd 316)) := by
  exact xs_iadd_ok d_0_315
theorem it_0_316 (Ls : Nat) (xs : Nat → Int32) : xPI Ls xs md_0 316 (.inl (xs_ia Ls xs 317)) := by
  exact xs_ia_ok d_0_316
theorem it_0_317 (Ls : Nat) (xs : Nat → Int32) : xPI Ls xs md_0 317 (.inr (.inl (21, 2, 2, []))) := by
  exact ⟨md_21, rfl, tw_1, by decide, ⟨by decide, by decide⟩, Or.inr (Or.inr ⟨0, R_0, T_0, N_0, 100, 1, rfl, rfl, rfl, rfl, d_0_317, tw_213, tw_214, tw_215, by decide +kernel, (fun x q h => by cases h)⟩)⟩
theorem it_0_320 (Ls : Nat) (xs : Nat → Int32) : xPI Ls xs md_0 320 (.inl (xs_al 2 321)) := by
  exact xs_aload_n_ok d_0_320 rfl
theorem it_0_321 (Ls : Nat) (xs : Nat → Int32) : xPI Ls xs md_0 321 (.inl (xs_al 0 322)) := by
  exact xs_aload_n_ok d_0_321 rfl
theorem it_0_322 (Ls : Nat) (xs : Nat → Int32) : xPI Ls xs md_0 322 (.inl (xs_il 4 324)) := by
  exact xs_iload_ok d_0_322
theorem it_0_324 (Ls : Nat) (xs : Nat → Int32) : xPI Ls xs md_0 324 (.inl (xs_c (1) 325)) := by
  exact xs_iconst_ok d_0_324 (by decide)
theorem it_0_325 (Ls : Nat) (xs : Nat → Int32) : xPI Ls xs md_0 325 (.inl (xs_iadd 326)) := by
  exact xs_iadd_ok d_0_325
theorem it_0_326 (Ls : Nat) (xs : Nat → Int32) : xPI Ls xs md_0 326 (.inl (xs_ia Ls xs 327)) := by
  exact xs_ia_ok d_0_326
theorem it_0_327 (Ls : Nat) (xs : Nat → Int32) : xPI Ls xs md_0 327 (.inr (.inl (83, 2, 8, []))) := by
  exact ⟨md_83, rfl, tw_7, by decide, ⟨by decide, by decide⟩, Or.inr (Or.inr ⟨6, R_6, T_6, N_6, 103, 1, rfl, rfl, rfl, rfl, d_0_327, tw_992, tw_993, tw_994, by decide +kernel, (fun x q h => by cases h)⟩)⟩
theorem it_0_330 (Ls : Nat) (xs : Nat → Int32) : xPI Ls xs md_0 330 (.inl (xs_ic_eq 972 333)) := by
  exact xs_ic_eq_ok d_0_330 (by decide)
theorem it_0_333 (Ls : Nat) (xs : Nat → Int32) : xPI Ls xs md_0 333 (.inl (xs_c (0) 334)) := by
  exact xs_iconst_ok d_0_333 (by decide)
theorem it_0_334 (Ls : Nat) (xs : Nat → Int32) : xPI Ls xs md_0 334 (.inr (.inr 2)) := by
  exact ⟨rfl, d_0_334⟩
theorem it_0_335 (Ls : Nat) (xs : Nat → Int32) : xPI Ls xs md_0 335 (.inl (xs_al 1 336)) := by
  exact xs_aload_n_ok d_0_335 rfl
theorem it_0_336 (Ls : Nat) (xs : Nat → Int32) : xPI Ls xs md_0 336 (.inr (.inl (22, 1, 2, []))) := by
  exact ⟨md_22, rfl, tw_1, by decide, ⟨by decide, by decide⟩, Or.inr (Or.inr ⟨0, R_0, T_0, N_0, 104, 0, rfl, rfl, rfl, rfl, d_0_336, tw_225, tw_226, tw_227, by decide +kernel, (fun x q h => by cases h)⟩)⟩
theorem it_0_339 (Ls : Nat) (xs : Nat → Int32) : xPI Ls xs md_0 339 (.inl (xs_al 2 340)) := by
  exact xs_aload_n_ok d_0_339 rfl
theorem it_0_340 (Ls : Nat) (xs : Nat → Int32) : xPI Ls xs md_0 340 (.inr (.inl (84, 1, 8, []))) := by
  exact ⟨md_84, rfl, tw_7, by decide, ⟨by decide, by decide⟩, Or.inr (Or.inr ⟨6, R_6, T_6, N_6, 107, 0, rfl, rfl, rfl, rfl, d_0_340, tw_996, tw_997, tw_998, by decide +kernel, (fun x q h => by cases h)⟩)⟩
theorem it_0_343 (Ls : Nat) (xs : Nat → Int32) : xPI Ls xs md_0 343 (.inl (xs_ic_eq 972 346)) := by
  exact xs_ic_eq_ok d_0_343 (by decide)
theorem it_0_346 (Ls : Nat) (xs : Nat → Int32) : xPI Ls xs md_0 346 (.inl (xs_c (0) 347)) := by
  exact xs_iconst_ok d_0_346 (by decide)
theorem it_0_347 (Ls : Nat) (xs : Nat → Int32) : xPI Ls xs md_0 347 (.inr (.inr 2)) := by
  exact ⟨rfl, d_0_347⟩
theorem it_0_348 (Ls : Nat) (xs : Nat → Int32) : xPI Ls xs md_0 348 (.inl (xs_al 1 349)) := by
  exact xs_aload_n_ok d_0_348 rfl
theorem it_0_349 (Ls : Nat) (xs : Nat → Int32) : xPI Ls xs md_0 349 (.inl (xs_al 0 350)) := by
  exact xs_aload_n_ok d_0_349 rfl
theorem it_0_350 (Ls : Nat) (xs : Nat → Int32) : xPI Ls xs md_0 350 (.inl (xs_il 4 352)) := by
  exact xs_iload_ok d_0_350
theorem it_0_352 (Ls : Nat) (xs : Nat → Int32) : xPI Ls xs md_0 352 (.inl (xs_c (1) 353)) := by
  exact xs_iconst_ok d_0_352 (by decide)
theorem it_0_353 (Ls : Nat) (xs : Nat → Int32) : xPI Ls xs md_0 353 (.inl (xs_iadd 354)) := by
  exact xs_iadd_ok d_0_353
theorem it_0_354 (Ls : Nat) (xs : Nat → Int32) : xPI Ls xs md_0 354 (.inl (xs_ia Ls xs 355)) := by
  exact xs_ia_ok d_0_354
theorem it_0_355 (Ls : Nat) (xs : Nat → Int32) : xPI Ls xs md_0 355 (.inl (xs_al 3 356)) := by
  exact xs_aload_n_ok d_0_355 rfl
theorem it_0_356 (Ls : Nat) (xs : Nat → Int32) : xPI Ls xs md_0 356 (.inr (.inl (5, 3, 0, []))) := by
  exact ⟨md_5, rfl, tw_0, by decide, ⟨by decide, by decide⟩, Or.inl ⟨rfl, rfl, 108, d_0_356, tw_592, tw_593, by decide +kernel⟩⟩
theorem it_0_359 (Ls : Nat) (xs : Nat → Int32) : xPI Ls xs md_0 359 (.inl (xs_is 7 5 361)) := by
  exact xs_istore_ok d_0_359
theorem it_0_361 (Ls : Nat) (xs : Nat → Int32) : xPI Ls xs md_0 361 (.inl (xs_al 2 362)) := by
  exact xs_aload_n_ok d_0_361 rfl
theorem it_0_362 (Ls : Nat) (xs : Nat → Int32) : xPI Ls xs md_0 362 (.inl (xs_al 0 363)) := by
  exact xs_aload_n_ok d_0_362 rfl
theorem it_0_363 (Ls : Nat) (xs : Nat → Int32) : xPI Ls xs md_0 363 (.inl (xs_il 4 365)) := by
  exact xs_iload_ok d_0_363
theorem it_0_365 (Ls : Nat) (xs : Nat → Int32) : xPI Ls xs md_0 365 (.inl (xs_c (1) 366)) := by
  exact xs_iconst_ok d_0_365 (by decide)
theorem it_0_366 (Ls : Nat) (xs : Nat → Int32) : xPI Ls xs md_0 366 (.inl (xs_iadd 367)) := by
  exact xs_iadd_ok d_0_366
theorem it_0_367 (Ls : Nat) (xs : Nat → Int32) : xPI Ls xs md_0 367 (.inl (xs_ia Ls xs 368)) := by
  exact xs_ia_ok d_0_367
theorem it_0_368 (Ls : Nat) (xs : Nat → Int32) : xPI Ls xs md_0 368 (.inr (.inl (86, 2, 8, []))) := by
  exact ⟨md_86, rfl, tw_7, by decide, ⟨by decide, by decide⟩, Or.inr (Or.inr ⟨6, R_6, T_6, N_6, 110, 1, rfl, rfl, rfl, rfl, d_0_368, tw_1000, tw_1001, tw_1002, by decide +kernel, (fun x q h => by cases h)⟩)⟩
theorem it_0_371 (Ls : Nat) (xs : Nat → Int32) : xPI Ls xs md_0 371 (.inl (xs_is 7 6 373)) := by
  exact xs_istore_ok d_0_371
theorem it_0_373 (Ls : Nat) (xs : Nat → Int32) : xPI Ls xs md_0 373 (.inl (xs_al 2 374)) := by
  exact xs_aload_n_ok d_0_373 rfl
theorem it_0_374 (Ls : Nat) (xs : Nat → Int32) : xPI Ls xs md_0 374 (.inr (.inl (67, 1, 8, []))) := by
  exact ⟨md_67, rfl, tw_7, by decide, ⟨by decide, by decide⟩, Or.inr (Or.inr ⟨6, R_6, T_6, N_6, 81, 0, rfl, rfl, rfl, rfl, d_0_374, tw_876, tw_877, tw_878, by decide +kernel, (fun x q h => by cases h)⟩)⟩
theorem it_0_377 (Ls : Nat) (xs : Nat → Int32) : xPI Ls xs md_0 377 (.inl (xs_il 5 379)) := by
  exact xs_iload_ok d_0_377
theorem it_0_379 (Ls : Nat) (xs : Nat → Int32) : xPI Ls xs md_0 379 (.inl (xs_ic_eq 384 382)) := by
  exact xs_ic_eq_ok d_0_379 (by decide)
theorem it_0_382 (Ls : Nat) (xs : Nat → Int32) : xPI Ls xs md_0 382 (.inl (xs_c (0) 383)) := by
  exact xs_iconst_ok d_0_382 (by decide)
theorem it_0_383 (Ls : Nat) (xs : Nat → Int32) : xPI Ls xs md_0 383 (.inr (.inr 2)) := by
  exact ⟨rfl, d_0_383⟩
theorem it_0_384 (Ls : Nat) (xs : Nat → Int32) : xPI Ls xs md_0 384 (.inl (xs_il 5 386)) := by
  exact xs_iload_ok d_0_384
theorem it_0_386 (Ls : Nat) (xs : Nat → Int32) : xPI Ls xs md_0 386 (.inl (xs_if_ne 401 389)) := by
  exact xs_if_ne_ok d_0_386 (by decide)
theorem it_0_389 (Ls : Nat) (xs : Nat → Int32) : xPI Ls xs md_0 389 (.inl (xs_al 3 390)) := by
  exact xs_aload_n_ok d_0_389 rfl
theorem it_0_390 (Ls : Nat) (xs : Nat → Int32) : xPI Ls xs md_0 390 (.inl (xs_c (0) 391)) := by
  exact xs_iconst_ok d_0_390 (by decide)
theorem it_0_391 (Ls : Nat) (xs : Nat → Int32) : xPI Ls xs md_0 391 (.inl (xs_la 392)) := by
  exact xs_la_ok d_0_391
theorem it_0_392 (Ls : Nat) (xs : Nat → Int32) : xPI Ls xs md_0 392 (.inl (xs_il 6 394)) := by
  exact xs_iload_ok d_0_392
theorem it_0_394 (Ls : Nat) (xs : Nat → Int32) : xPI Ls xs md_0 394 (.inl (xs_i2l 395)) := by
  exact xs_i2l_ok d_0_394
theorem it_0_395 (Ls : Nat) (xs : Nat → Int32) : xPI Ls xs md_0 395 (.inl (xs_lcmp 396)) := by
  exact xs_lcmp_ok d_0_395
theorem it_0_396 (Ls : Nat) (xs : Nat → Int32) : xPI Ls xs md_0 396 (.inl (xs_if_eq 401 399)) := by
  exact xs_if_eq_ok d_0_396 (by decide)
theorem it_0_399 (Ls : Nat) (xs : Nat → Int32) : xPI Ls xs md_0 399 (.inl (xs_c (0) 400)) := by
  exact xs_iconst_ok d_0_399 (by decide)
theorem it_0_400 (Ls : Nat) (xs : Nat → Int32) : xPI Ls xs md_0 400 (.inr (.inr 2)) := by
  exact ⟨rfl, d_0_400⟩
theorem it_0_401 (Ls : Nat) (xs : Nat → Int32) : xPI Ls xs md_0 401 (.inl (xs_goto 972)) := by
  exact xs_goto_ok d_0_401 (by decide)
theorem it_0_404 (Ls : Nat) (xs : Nat → Int32) : xPI Ls xs md_0 404 (.inl (xs_al 1 405)) := by
  exact xs_aload_n_ok d_0_404 rfl
theorem it_0_405 (Ls : Nat) (xs : Nat → Int32) : xPI Ls xs md_0 405 (.inl (xs_al 0 406)) := by
  exact xs_aload_n_ok d_0_405 rfl
theorem it_0_406 (Ls : Nat) (xs : Nat → Int32) : xPI Ls xs md_0 406 (.inl (xs_il 4 408)) := by
  exact xs_iload_ok d_0_406
theorem it_0_408 (Ls : Nat) (xs : Nat → Int32) : xPI Ls xs md_0 408 (.inl (xs_c (1) 409)) := by
  exact xs_iconst_ok d_0_408 (by decide)
theorem it_0_409 (Ls : Nat) (xs : Nat → Int32) : xPI Ls xs md_0 409 (.inl (xs_iadd 410)) := by
  exact xs_iadd_ok d_0_409
theorem it_0_410 (Ls : Nat) (xs : Nat → Int32) : xPI Ls xs md_0 410 (.inl (xs_ia Ls xs 411)) := by
  exact xs_ia_ok d_0_410
theorem it_0_411 (Ls : Nat) (xs : Nat → Int32) : xPI Ls xs md_0 411 (.inl (xs_al 0 412)) := by
  exact xs_aload_n_ok d_0_411 rfl
theorem it_0_412 (Ls : Nat) (xs : Nat → Int32) : xPI Ls xs md_0 412 (.inl (xs_il 4 414)) := by
  exact xs_iload_ok d_0_412
theorem it_0_414 (Ls : Nat) (xs : Nat → Int32) : xPI Ls xs md_0 414 (.inl (xs_c (2) 415)) := by
  exact xs_iconst_ok d_0_414 (by decide)
theorem it_0_415 (Ls : Nat) (xs : Nat → Int32) : xPI Ls xs md_0 415 (.inl (xs_iadd 416)) := by
  exact xs_iadd_ok d_0_415
theorem it_0_416 (Ls : Nat) (xs : Nat → Int32) : xPI Ls xs md_0 416 (.inl (xs_ia Ls xs 417)) := by
  exact xs_ia_ok d_0_416
theorem it_0_417 (Ls : Nat) (xs : Nat → Int32) : xPI Ls xs md_0 417 (.inl (xs_al 0 418)) := by
  exact xs_aload_n_ok d_0_417 rfl
theorem it_0_418 (Ls : Nat) (xs : Nat → Int32) : xPI Ls xs md_0 418 (.inl (xs_il 4 420)) := by
  exact xs_iload_ok d_0_418
theorem it_0_420 (Ls : Nat) (xs : Nat → Int32) : xPI Ls xs md_0 420 (.inl (xs_c (3) 421)) := by
  exact xs_iconst_ok d_0_420 (by decide)
theorem it_0_421 (Ls : Nat) (xs : Nat → Int32) : xPI Ls xs md_0 421 (.inl (xs_iadd 422)) := by
  exact xs_iadd_ok d_0_421
theorem it_0_422 (Ls : Nat) (xs : Nat → Int32) : xPI Ls xs md_0 422 (.inl (xs_ia Ls xs 423)) := by
  exact xs_ia_ok d_0_422
theorem it_0_423 (Ls : Nat) (xs : Nat → Int32) : xPI Ls xs md_0 423 (.inl (xs_al 3 424)) := by
  exact xs_aload_n_ok d_0_423 rfl
theorem it_0_424 (Ls : Nat) (xs : Nat → Int32) : xPI Ls xs md_0 424 (.inr (.inl (6, 5, 0, []))) := by
  exact ⟨md_6, rfl, tw_0, by decide, ⟨by decide, by decide⟩, Or.inl ⟨rfl, rfl, 111, d_0_424, tw_630, tw_631, by decide +kernel⟩⟩
theorem it_0_427 (Ls : Nat) (xs : Nat → Int32) : xPI Ls xs md_0 427 (.inl (xs_is 7 5 429)) := by
  exact xs_istore_ok d_0_427
theorem it_0_429 (Ls : Nat) (xs : Nat → Int32) : xPI Ls xs md_0 429 (.inl (xs_al 2 430)) := by
  exact xs_aload_n_ok d_0_429 rfl
theorem it_0_430 (Ls : Nat) (xs : Nat → Int32) : xPI Ls xs md_0 430 (.inl (xs_al 0 431)) := by
  exact xs_aload_n_ok d_0_430 rfl
theorem it_0_431 (Ls : Nat) (xs : Nat → Int32) : xPI Ls xs md_0 431 (.inl (xs_il 4 433)) := by
  exact xs_iload_ok d_0_431
theorem it_0_433 (Ls : Nat) (xs : Nat → Int32) : xPI Ls xs md_0 433 (.inl (xs_c (1) 434)) := by
  exact xs_iconst_ok d_0_433 (by decide)
theorem it_0_434 (Ls : Nat) (xs : Nat → Int32) : xPI Ls xs md_0 434 (.inl (xs_iadd 435)) := by
  exact xs_iadd_ok d_0_434
theorem it_0_435 (Ls : Nat) (xs : Nat → Int32) : xPI Ls xs md_0 435 (.inl (xs_ia Ls xs 436)) := by
  exact xs_ia_ok d_0_435
theorem it_0_436 (Ls : Nat) (xs : Nat → Int32) : xPI Ls xs md_0 436 (.inl (xs_al 0 437)) := by
  exact xs_aload_n_ok d_0_436 rfl
theorem it_0_437 (Ls : Nat) (xs : Nat → Int32) : xPI Ls xs md_0 437 (.inl (xs_il 4 439)) := by
  exact xs_iload_ok d_0_437
theorem it_0_439 (Ls : Nat) (xs : Nat → Int32) : xPI Ls xs md_0 439 (.inl (xs_c (2) 440)) := by
  exact xs_iconst_ok d_0_439 (by decide)
theorem it_0_440 (Ls : Nat) (xs : Nat → Int32) : xPI Ls xs md_0 440 (.inl (xs_iadd 441)) := by
  exact xs_iadd_ok d_0_440
theorem it_0_441 (Ls : Nat) (xs : Nat → Int32) : xPI Ls xs md_0 441 (.inl (xs_ia Ls xs 442)) := by
  exact xs_ia_ok d_0_441
theorem it_0_442 (Ls : Nat) (xs : Nat → Int32) : xPI Ls xs md_0 442 (.inl (xs_al 0 443)) := by
  exact xs_aload_n_ok d_0_442 rfl
theorem it_0_443 (Ls : Nat) (xs : Nat → Int32) : xPI Ls xs md_0 443 (.inl (xs_il 4 445)) := by
  exact xs_iload_ok d_0_443
theorem it_0_445 (Ls : Nat) (xs : Nat → Int32) : xPI Ls xs md_0 445 (.inl (xs_c (3) 446)) := by
  exact xs_iconst_ok d_0_445 (by decide)
theorem it_0_446 (Ls : Nat) (xs : Nat → Int32) : xPI Ls xs md_0 446 (.inl (xs_iadd 447)) := by
  exact xs_iadd_ok d_0_446
theorem it_0_447 (Ls : Nat) (xs : Nat → Int32) : xPI Ls xs md_0 447 (.inl (xs_ia Ls xs 448)) := by
  exact xs_ia_ok d_0_447
theorem it_0_448 (Ls : Nat) (xs : Nat → Int32) : xPI Ls xs md_0 448 (.inr (.inl (87, 4, 8, []))) := by
  exact ⟨md_87, rfl, tw_7, by decide, ⟨by decide, by decide⟩, Or.inr (Or.inr ⟨6, R_6, T_6, N_6, 114, 3, rfl, rfl, rfl, rfl, d_0_448, tw_1008, tw_1009, tw_1010, by decide +kernel, (fun x q h => by cases h)⟩)⟩
theorem it_0_451 (Ls : Nat) (xs : Nat → Int32) : xPI Ls xs md_0 451 (.inl (xs_is 7 6 453)) := by
  exact xs_istore_ok d_0_451
theorem it_0_453 (Ls : Nat) (xs : Nat → Int32) : xPI Ls xs md_0 453 (.inl (xs_al 2 454)) := by
  exact xs_aload_n_ok d_0_453 rfl
theorem it_0_454 (Ls : Nat) (xs : Nat → Int32) : xPI Ls xs md_0 454 (.inr (.inl (67, 1, 8, []))) := by
  exact ⟨md_67, rfl, tw_7, by decide, ⟨by decide, by decide⟩, Or.inr (Or.inr ⟨6, R_6, T_6, N_6, 81, 0, rfl, rfl, rfl, rfl, d_0_454, tw_876, tw_877, tw_878, by decide +kernel, (fun x q h => by cases h)⟩)⟩
theorem it_0_457 (Ls : Nat) (xs : Nat → Int32) : xPI Ls xs md_0 457 (.inl (xs_il 5 459)) := by
  exact xs_iload_ok d_0_457
theorem it_0_459 (Ls : Nat) (xs : Nat → Int32) : xPI Ls xs md_0 459 (.inl (xs_ic_eq 464 462)) := by
  exact xs_ic_eq_ok d_0_459 (by decide)
theorem it_0_462 (Ls : Nat) (xs : Nat → Int32) : xPI Ls xs md_0 462 (.inl (xs_c (0) 463)) := by
  exact xs_iconst_ok d_0_462 (by decide)
theorem it_0_463 (Ls : Nat) (xs : Nat → Int32) : xPI Ls xs md_0 463 (.inr (.inr 2)) := by
  exact ⟨rfl, d_0_463⟩
theorem it_0_464 (Ls : Nat) (xs : Nat → Int32) : xPI Ls xs md_0 464 (.inl (xs_il 5 466)) := by
  exact xs_iload_ok d_0_464
theorem it_0_466 (Ls : Nat) (xs : Nat → Int32) : xPI Ls xs md_0 466 (.inl (xs_if_ne 481 469)) := by
  exact xs_if_ne_ok d_0_466 (by decide)
theorem it_0_469 (Ls : Nat) (xs : Nat → Int32) : xPI Ls xs md_0 469 (.inl (xs_al 3 470)) := by
  exact xs_aload_n_ok d_0_469 rfl
theorem it_0_470 (Ls : Nat) (xs : Nat → Int32) : xPI Ls xs md_0 470 (.inl (xs_c (0) 471)) := by
  exact xs_iconst_ok d_0_470 (by decide)
theorem it_0_471 (Ls : Nat) (xs : Nat → Int32) : xPI Ls xs md_0 471 (.inl (xs_la 472)) := by
  exact xs_la_ok d_0_471
theorem it_0_472 (Ls : Nat) (xs : Nat → Int32) : xPI Ls xs md_0 472 (.inl (xs_il 6 474)) := by
  exact xs_iload_ok d_0_472
theorem it_0_474 (Ls : Nat) (xs : Nat → Int32) : xPI Ls xs md_0 474 (.inl (xs_i2l 475)) := by
  exact xs_i2l_ok d_0_474
theorem it_0_475 (Ls : Nat) (xs : Nat → Int32) : xPI Ls xs md_0 475 (.inl (xs_lcmp 476)) := by
  exact xs_lcmp_ok d_0_475
theorem it_0_476 (Ls : Nat) (xs : Nat → Int32) : xPI Ls xs md_0 476 (.inl (xs_if_eq 481 479)) := by
  exact xs_if_eq_ok d_0_476 (by decide)
theorem it_0_479 (Ls : Nat) (xs : Nat → Int32) : xPI Ls xs md_0 479 (.inl (xs_c (0) 480)) := by
  exact xs_iconst_ok d_0_479 (by decide)
theorem it_0_480 (Ls : Nat) (xs : Nat → Int32) : xPI Ls xs md_0 480 (.inr (.inr 2)) := by
  exact ⟨rfl, d_0_480⟩
theorem it_0_481 (Ls : Nat) (xs : Nat → Int32) : xPI Ls xs md_0 481 (.inl (xs_goto 972)) := by
  exact xs_goto_ok d_0_481 (by decide)
theorem it_0_484 (Ls : Nat) (xs : Nat → Int32) : xPI Ls xs md_0 484 (.inl (xs_al 1 485)) := by
  exact xs_aload_n_ok d_0_484 rfl
theorem it_0_485 (Ls : Nat) (xs : Nat → Int32) : xPI Ls xs md_0 485 (.inl (xs_al 0 486)) := by
  exact xs_aload_n_ok d_0_485 rfl
theorem it_0_486 (Ls : Nat) (xs : Nat → Int32) : xPI Ls xs md_0 486 (.inl (xs_il 4 488)) := by
  exact xs_iload_ok d_0_486
theorem it_0_488 (Ls : Nat) (xs : Nat → Int32) : xPI Ls xs md_0 488 (.inl (xs_c (1) 489)) := by
  exact xs_iconst_ok d_0_488 (by decide)
theorem it_0_489 (Ls : Nat) (xs : Nat → Int32) : xPI Ls xs md_0 489 (.inl (xs_iadd 490)) := by
  exact xs_iadd_ok d_0_489
theorem it_0_490 (Ls : Nat) (xs : Nat → Int32) : xPI Ls xs md_0 490 (.inl (xs_ia Ls xs 491)) := by
  exact xs_ia_ok d_0_490
theorem it_0_491 (Ls : Nat) (xs : Nat → Int32) : xPI Ls xs md_0 491 (.inl (xs_al 0 492)) := by
  exact xs_aload_n_ok d_0_491 rfl
theorem it_0_492 (Ls : Nat) (xs : Nat → Int32) : xPI Ls xs md_0 492 (.inl (xs_il 4 494)) := by
  exact xs_iload_ok d_0_492
theorem it_0_494 (Ls : Nat) (xs : Nat → Int32) : xPI Ls xs md_0 494 (.inl (xs_c (2) 495)) := by
  exact xs_iconst_ok d_0_494 (by decide)
theorem it_0_495 (Ls : Nat) (xs : Nat → Int32) : xPI Ls xs md_0 495 (.inl (xs_iadd 496)) := by
  exact xs_iadd_ok d_0_495
theorem it_0_496 (Ls : Nat) (xs : Nat → Int32) : xPI Ls xs md_0 496 (.inl (xs_ia Ls xs 497)) := by
  exact xs_ia_ok d_0_496
theorem it_0_497 (Ls : Nat) (xs : Nat → Int32) : xPI Ls xs md_0 497 (.inl (xs_al 3 498)) := by
  exact xs_aload_n_ok d_0_497 rfl
theorem it_0_498 (Ls : Nat) (xs : Nat → Int32) : xPI Ls xs md_0 498 (.inr (.inl (7, 4, 0, []))) := by
  exact ⟨md_7, rfl, tw_0, by decide, ⟨by decide, by decide⟩, Or.inl ⟨rfl, rfl, 115, d_0_498, tw_655, tw_656, by decide +kernel⟩⟩
theorem it_0_501 (Ls : Nat) (xs : Nat → Int32) : xPI Ls xs md_0 501 (.inl (xs_is 7 5 503)) := by
  exact xs_istore_ok d_0_501
theorem it_0_503 (Ls : Nat) (xs : Nat → Int32) : xPI Ls xs md_0 503 (.inl (xs_al 2 504)) := by
  exact xs_aload_n_ok d_0_503 rfl
theorem it_0_504 (Ls : Nat) (xs : Nat → Int32) : xPI Ls xs md_0 504 (.inl (xs_al 0 505)) := by
  exact xs_aload_n_ok d_0_504 rfl
theorem it_0_505 (Ls : Nat) (xs : Nat → Int32) : xPI Ls xs md_0 505 (.inl (xs_il 4 507)) := by
  exact xs_iload_ok d_0_505
theorem it_0_507 (Ls : Nat) (xs : Nat → Int32) : xPI Ls xs md_0 507 (.inl (xs_c (1) 508)) := by
  exact xs_iconst_ok d_0_507 (by decide)
theorem it_0_508 (Ls : Nat) (xs : Nat → Int32) : xPI Ls xs md_0 508 (.inl (xs_iadd 509)) := by
  exact xs_iadd_ok d_0_508
theorem it_0_509 (Ls : Nat) (xs : Nat → Int32) : xPI Ls xs md_0 509 (.inl (xs_ia Ls xs 510)) := by
  exact xs_ia_ok d_0_509
theorem it_0_510 (Ls : Nat) (xs : Nat → Int32) : xPI Ls xs md_0 510 (.inl (xs_al 0 511)) := by
  exact xs_aload_n_ok d_0_510 rfl
theorem it_0_511 (Ls : Nat) (xs : Nat → Int32) : xPI Ls xs md_0 511 (.inl (xs_il 4 513)) := by
  exact xs_iload_ok d_0_511
theorem it_0_513 (Ls : Nat) (xs : Nat → Int32) : xPI Ls xs md_0 513 (.inl (xs_c (2) 514)) := by
  exact xs_iconst_ok d_0_513 (by decide)
theorem it_0_514 (Ls : Nat) (xs : Nat → Int32) : xPI Ls xs md_0 514 (.inl (xs_iadd 515)) := by
  exact xs_iadd_ok d_0_514
theorem it_0_515 (Ls : Nat) (xs : Nat → Int32) : xPI Ls xs md_0 515 (.inl (xs_ia Ls xs 516)) := by
  exact xs_ia_ok d_0_515
theorem it_0_516 (Ls : Nat) (xs : Nat → Int32) : xPI Ls xs md_0 516 (.inr (.inl (88, 3, 8, []))) := by
  exact ⟨md_88, rfl, tw_7, by decide, ⟨by decide, by decide⟩, Or.inr (Or.inr ⟨6, R_6, T_6, N_6, 118, 2, rfl, rfl, rfl, rfl, d_0_516, tw_1012, tw_1013, tw_1014, by decide +kernel, (fun x q h => by cases h)⟩)⟩
theorem it_0_519 (Ls : Nat) (xs : Nat → Int32) : xPI Ls xs md_0 519 (.inl (xs_is 7 6 521)) := by
  exact xs_istore_ok d_0_519
theorem it_0_521 (Ls : Nat) (xs : Nat → Int32) : xPI Ls xs md_0 521 (.inl (xs_al 2 522)) := by
  exact xs_aload_n_ok d_0_521 rfl
theorem it_0_522 (Ls : Nat) (xs : Nat → Int32) : xPI Ls xs md_0 522 (.inr (.inl (67, 1, 8, []))) := by
  exact ⟨md_67, rfl, tw_7, by decide, ⟨by decide, by decide⟩, Or.inr (Or.inr ⟨6, R_6, T_6, N_6, 81, 0, rfl, rfl, rfl, rfl, d_0_522, tw_876, tw_877, tw_878, by decide +kernel, (fun x q h => by cases h)⟩)⟩
theorem it_0_525 (Ls : Nat) (xs : Nat → Int32) : xPI Ls xs md_0 525 (.inl (xs_il 5 527)) := by
  exact xs_iload_ok d_0_525
theorem it_0_527 (Ls : Nat) (xs : Nat → Int32) : xPI Ls xs md_0 527 (.inl (xs_ic_eq 532 530)) := by
  exact xs_ic_eq_ok d_0_527 (by decide)
theorem it_0_530 (Ls : Nat) (xs : Nat → Int32) : xPI Ls xs md_0 530 (.inl (xs_c (0) 531)) := by
  exact xs_iconst_ok d_0_530 (by decide)
theorem it_0_531 (Ls : Nat) (xs : Nat → Int32) : xPI Ls xs md_0 531 (.inr (.inr 2)) := by
  exact ⟨rfl, d_0_531⟩
theorem it_0_532 (Ls : Nat) (xs : Nat → Int32) : xPI Ls xs md_0 532 (.inl (xs_il 5 534)) := by
  exact xs_iload_ok d_0_532
theorem it_0_534 (Ls : Nat) (xs : Nat → Int32) : xPI Ls xs md_0 534 (.inl (xs_if_ne 549 537)) := by
  exact xs_if_ne_ok d_0_534 (by decide)
theorem it_0_537 (Ls : Nat) (xs : Nat → Int32) : xPI Ls xs md_0 537 (.inl (xs_al 3 538)) := by
  exact xs_aload_n_ok d_0_537 rfl
theorem it_0_538 (Ls : Nat) (xs : Nat → Int32) : xPI Ls xs md_0 538 (.inl (xs_c (0) 539)) := by
  exact xs_iconst_ok d_0_538 (by decide)
theorem it_0_539 (Ls : Nat) (xs : Nat → Int32) : xPI Ls xs md_0 539 (.inl (xs_la 540)) := by
  exact xs_la_ok d_0_539
theorem it_0_540 (Ls : Nat) (xs : Nat → Int32) : xPI Ls xs md_0 540 (.inl (xs_il 6 542)) := by
  exact xs_iload_ok d_0_540
theorem it_0_542 (Ls : Nat) (xs : Nat → Int32) : xPI Ls xs md_0 542 (.inl (xs_i2l 543)) := by
  exact xs_i2l_ok d_0_542
theorem it_0_543 (Ls : Nat) (xs : Nat → Int32) : xPI Ls xs md_0 543 (.inl (xs_lcmp 544)) := by
  exact xs_lcmp_ok d_0_543
theorem it_0_544 (Ls : Nat) (xs : Nat → Int32) : xPI Ls xs md_0 544 (.inl (xs_if_eq 549 547)) := by
  exact xs_if_eq_ok d_0_544 (by decide)
theorem it_0_547 (Ls : Nat) (xs : Nat → Int32) : xPI Ls xs md_0 547 (.inl (xs_c (0) 548)) := by
  exact xs_iconst_ok d_0_547 (by decide)
theorem it_0_548 (Ls : Nat) (xs : Nat → Int32) : xPI Ls xs md_0 548 (.inr (.inr 2)) := by
  exact ⟨rfl, d_0_548⟩
theorem it_0_549 (Ls : Nat) (xs : Nat → Int32) : xPI Ls xs md_0 549 (.inl (xs_goto 972)) := by
  exact xs_goto_ok d_0_549 (by decide)
theorem it_0_552 (Ls : Nat) (xs : Nat → Int32) : xPI Ls xs md_0 552 (.inl (xs_al 1 553)) := by
  exact xs_aload_n_ok d_0_552 rfl
theorem it_0_553 (Ls : Nat) (xs : Nat → Int32) : xPI Ls xs md_0 553 (.inl (xs_al 0 554)) := by
  exact xs_aload_n_ok d_0_553 rfl
theorem it_0_554 (Ls : Nat) (xs : Nat → Int32) : xPI Ls xs md_0 554 (.inl (xs_il 4 556)) := by
  exact xs_iload_ok d_0_554
theorem it_0_556 (Ls : Nat) (xs : Nat → Int32) : xPI Ls xs md_0 556 (.inl (xs_c (1) 557)) := by
  exact xs_iconst_ok d_0_556 (by decide)
theorem it_0_557 (Ls : Nat) (xs : Nat → Int32) : xPI Ls xs md_0 557 (.inl (xs_iadd 558)) := by
  exact xs_iadd_ok d_0_557
theorem it_0_558 (Ls : Nat) (xs : Nat → Int32) : xPI Ls xs md_0 558 (.inl (xs_ia Ls xs 559)) := by
  exact xs_ia_ok d_0_558
theorem it_0_559 (Ls : Nat) (xs : Nat → Int32) : xPI Ls xs md_0 559 (.inl (xs_al 0 560)) := by
  exact xs_aload_n_ok d_0_559 rfl
theorem it_0_560 (Ls : Nat) (xs : Nat → Int32) : xPI Ls xs md_0 560 (.inl (xs_il 4 562)) := by
  exact xs_iload_ok d_0_560
theorem it_0_562 (Ls : Nat) (xs : Nat → Int32) : xPI Ls xs md_0 562 (.inl (xs_c (2) 563)) := by
  exact xs_iconst_ok d_0_562 (by decide)
theorem it_0_563 (Ls : Nat) (xs : Nat → Int32) : xPI Ls xs md_0 563 (.inl (xs_iadd 564)) := by
  exact xs_iadd_ok d_0_563
theorem it_0_564 (Ls : Nat) (xs : Nat → Int32) : xPI Ls xs md_0 564 (.inl (xs_ia Ls xs 565)) := by
  exact xs_ia_ok d_0_564
theorem it_0_565 (Ls : Nat) (xs : Nat → Int32) : xPI Ls xs md_0 565 (.inl (xs_al 3 566)) := by
  exact xs_aload_n_ok d_0_565 rfl
theorem it_0_566 (Ls : Nat) (xs : Nat → Int32) : xPI Ls xs md_0 566 (.inr (.inl (8, 4, 0, []))) := by
  exact ⟨md_8, rfl, tw_0, by decide, ⟨by decide, by decide⟩, Or.inl ⟨rfl, rfl, 119, d_0_566, tw_675, tw_676, by decide +kernel⟩⟩
theorem it_0_569 (Ls : Nat) (xs : Nat → Int32) : xPI Ls xs md_0 569 (.inl (xs_is 7 5 571)) := by
  exact xs_istore_ok d_0_569
theorem it_0_571 (Ls : Nat) (xs : Nat → Int32) : xPI Ls xs md_0 571 (.inl (xs_al 2 572)) := by
  exact xs_aload_n_ok d_0_571 rfl
theorem it_0_572 (Ls : Nat) (xs : Nat → Int32) : xPI Ls xs md_0 572 (.inl (xs_al 0 573)) := by
  exact xs_aload_n_ok d_0_572 rfl
theorem it_0_573 (Ls : Nat) (xs : Nat → Int32) : xPI Ls xs md_0 573 (.inl (xs_il 4 575)) := by
  exact xs_iload_ok d_0_573
theorem it_0_575 (Ls : Nat) (xs : Nat → Int32) : xPI Ls xs md_0 575 (.inl (xs_c (1) 576)) := by
  exact xs_iconst_ok d_0_575 (by decide)
theorem it_0_576 (Ls : Nat) (xs : Nat → Int32) : xPI Ls xs md_0 576 (.inl (xs_iadd 577)) := by
  exact xs_iadd_ok d_0_576
theorem it_0_577 (Ls : Nat) (xs : Nat → Int32) : xPI Ls xs md_0 577 (.inl (xs_ia Ls xs 578)) := by
  exact xs_ia_ok d_0_577
theorem it_0_578 (Ls : Nat) (xs : Nat → Int32) : xPI Ls xs md_0 578 (.inl (xs_al 0 579)) := by
  exact xs_aload_n_ok d_0_578 rfl
theorem it_0_579 (Ls : Nat) (xs : Nat → Int32) : xPI Ls xs md_0 579 (.inl (xs_il 4 581)) := by
  exact xs_iload_ok d_0_579
theorem it_0_581 (Ls : Nat) (xs : Nat → Int32) : xPI Ls xs md_0 581 (.inl (xs_c (2) 582)) := by
  exact xs_iconst_ok d_0_581 (by decide)
theorem it_0_582 (Ls : Nat) (xs : Nat → Int32) : xPI Ls xs md_0 582 (.inl (xs_iadd 583)) := by
  exact xs_iadd_ok d_0_582
theorem it_0_583 (Ls : Nat) (xs : Nat → Int32) : xPI Ls xs md_0 583 (.inl (xs_ia Ls xs 584)) := by
  exact xs_ia_ok d_0_583
theorem it_0_584 (Ls : Nat) (xs : Nat → Int32) : xPI Ls xs md_0 584 (.inr (.inl (89, 3, 8, []))) := by
  exact ⟨md_89, rfl, tw_7, by decide, ⟨by decide, by decide⟩, Or.inr (Or.inr ⟨6, R_6, T_6, N_6, 121, 2, rfl, rfl, rfl, rfl, d_0_584, tw_1016, tw_1017, tw_1018, by decide +kernel, (fun x q h => by cases h)⟩)⟩
theorem it_0_587 (Ls : Nat) (xs : Nat → Int32) : xPI Ls xs md_0 587 (.inl (xs_is 7 6 589)) := by
  exact xs_istore_ok d_0_587
theorem it_0_589 (Ls : Nat) (xs : Nat → Int32) : xPI Ls xs md_0 589 (.inl (xs_al 2 590)) := by
  exact xs_aload_n_ok d_0_589 rfl
theorem it_0_590 (Ls : Nat) (xs : Nat → Int32) : xPI Ls xs md_0 590 (.inr (.inl (67, 1, 8, []))) := by
  exact ⟨md_67, rfl, tw_7, by decide, ⟨by decide, by decide⟩, Or.inr (Or.inr ⟨6, R_6, T_6, N_6, 81, 0, rfl, rfl, rfl, rfl, d_0_590, tw_876, tw_877, tw_878, by decide +kernel, (fun x q h => by cases h)⟩)⟩
theorem it_0_593 (Ls : Nat) (xs : Nat → Int32) : xPI Ls xs md_0 593 (.inl (xs_il 5 595)) := by
  exact xs_iload_ok d_0_593
theorem it_0_595 (Ls : Nat) (xs : Nat → Int32) : xPI Ls xs md_0 595 (.inl (xs_ic_eq 600 598)) := by
  exact xs_ic_eq_ok d_0_595 (by decide)
theorem it_0_598 (Ls : Nat) (xs : Nat → Int32) : xPI Ls xs md_0 598 (.inl (xs_c (0) 599)) := by
  exact xs_iconst_ok d_0_598 (by decide)
theorem it_0_599 (Ls : Nat) (xs : Nat → Int32) : xPI Ls xs md_0 599 (.inr (.inr 2)) := by
  exact ⟨rfl, d_0_599⟩
theorem it_0_600 (Ls : Nat) (xs : Nat → Int32) : xPI Ls xs md_0 600 (.inl (xs_il 5 602)) := by
  exact xs_iload_ok d_0_600
theorem it_0_602 (Ls : Nat) (xs : Nat → Int32) : xPI Ls xs md_0 602 (.inl (xs_if_ne 617 605)) := by
  exact xs_if_ne_ok d_0_602 (by decide)
theorem it_0_605 (Ls : Nat) (xs : Nat → Int32) : xPI Ls xs md_0 605 (.inl (xs_al 3 606)) := by
  exact xs_aload_n_ok d_0_605 rfl
theorem it_0_606 (Ls : Nat) (xs : Nat → Int32) : xPI Ls xs md_0 606 (.inl (xs_c (0) 607)) := by
  exact xs_iconst_ok d_0_606 (by decide)
theorem it_0_607 (Ls : Nat) (xs : Nat → Int32) : xPI Ls xs md_0 607 (.inl (xs_la 608)) := by
  exact xs_la_ok d_0_607
theorem it_0_608 (Ls : Nat) (xs : Nat → Int32) : xPI Ls xs md_0 608 (.inl (xs_il 6 610)) := by
  exact xs_iload_ok d_0_608
theorem it_0_610 (Ls : Nat) (xs : Nat → Int32) : xPI Ls xs md_0 610 (.inl (xs_i2l 611)) := by
  exact xs_i2l_ok d_0_610
theorem it_0_611 (Ls : Nat) (xs : Nat → Int32) : xPI Ls xs md_0 611 (.inl (xs_lcmp 612)) := by
  exact xs_lcmp_ok d_0_611
theorem it_0_612 (Ls : Nat) (xs : Nat → Int32) : xPI Ls xs md_0 612 (.inl (xs_if_eq 617 615)) := by
  exact xs_if_eq_ok d_0_612 (by decide)
theorem it_0_615 (Ls : Nat) (xs : Nat → Int32) : xPI Ls xs md_0 615 (.inl (xs_c (0) 616)) := by
  exact xs_iconst_ok d_0_615 (by decide)
theorem it_0_616 (Ls : Nat) (xs : Nat → Int32) : xPI Ls xs md_0 616 (.inr (.inr 2)) := by
  exact ⟨rfl, d_0_616⟩
theorem it_0_617 (Ls : Nat) (xs : Nat → Int32) : xPI Ls xs md_0 617 (.inl (xs_goto 972)) := by
  exact xs_goto_ok d_0_617 (by decide)
theorem it_0_620 (Ls : Nat) (xs : Nat → Int32) : xPI Ls xs md_0 620 (.inl (xs_al 1 621)) := by
  exact xs_aload_n_ok d_0_620 rfl
theorem it_0_621 (Ls : Nat) (xs : Nat → Int32) : xPI Ls xs md_0 621 (.inl (xs_al 0 622)) := by
  exact xs_aload_n_ok d_0_621 rfl
theorem it_0_622 (Ls : Nat) (xs : Nat → Int32) : xPI Ls xs md_0 622 (.inl (xs_il 4 624)) := by
  exact xs_iload_ok d_0_622
theorem it_0_624 (Ls : Nat) (xs : Nat → Int32) : xPI Ls xs md_0 624 (.inl (xs_c (1) 625)) := by
  exact xs_iconst_ok d_0_624 (by decide)
theorem it_0_625 (Ls : Nat) (xs : Nat → Int32) : xPI Ls xs md_0 625 (.inl (xs_iadd 626)) := by
  exact xs_iadd_ok d_0_625
theorem it_0_626 (Ls : Nat) (xs : Nat → Int32) : xPI Ls xs md_0 626 (.inl (xs_ia Ls xs 627)) := by
  exact xs_ia_ok d_0_626
theorem it_0_627 (Ls : Nat) (xs : Nat → Int32) : xPI Ls xs md_0 627 (.inl (xs_al 3 628)) := by
  exact xs_aload_n_ok d_0_627 rfl
theorem it_0_628 (Ls : Nat) (xs : Nat → Int32) : xPI Ls xs md_0 628 (.inr (.inl (9, 3, 0, []))) := by
  exact ⟨md_9, rfl, tw_0, by decide, ⟨by decide, by decide⟩, Or.inl ⟨rfl, rfl, 122, d_0_628, tw_683, tw_684, by decide +kernel⟩⟩
theorem it_0_631 (Ls : Nat) (xs : Nat → Int32) : xPI Ls xs md_0 631 (.inl (xs_is 7 5 633)) := by
  exact xs_istore_ok d_0_631
theorem it_0_633 (Ls : Nat) (xs : Nat → Int32) : xPI Ls xs md_0 633 (.inl (xs_al 2 634)) := by
  exact xs_aload_n_ok d_0_633 rfl
theorem it_0_634 (Ls : Nat) (xs : Nat → Int32) : xPI Ls xs md_0 634 (.inl (xs_al 0 635)) := by
  exact xs_aload_n_ok d_0_634 rfl
theorem it_0_635 (Ls : Nat) (xs : Nat → Int32) : xPI Ls xs md_0 635 (.inl (xs_il 4 637)) := by
  exact xs_iload_ok d_0_635
theorem it_0_637 (Ls : Nat) (xs : Nat → Int32) : xPI Ls xs md_0 637 (.inl (xs_c (1) 638)) := by
  exact xs_iconst_ok d_0_637 (by decide)
theorem it_0_638 (Ls : Nat) (xs : Nat → Int32) : xPI Ls xs md_0 638 (.inl (xs_iadd 639)) := by
  exact xs_iadd_ok d_0_638
theorem it_0_639 (Ls : Nat) (xs : Nat → Int32) : xPI Ls xs md_0 639 (.inl (xs_ia Ls xs 640)) := by
  exact xs_ia_ok d_0_639
theorem it_0_640 (Ls : Nat) (xs : Nat → Int32) : xPI Ls xs md_0 640 (.inr (.inl (80, 2, 8, []))) := by
  exact ⟨md_80, rfl, tw_7, by decide, ⟨by decide, by decide⟩, Or.inr (Or.inr ⟨6, R_6, T_6, N_6, 124, 1, rfl, rfl, rfl, rfl, d_0_640, tw_924, tw_925, tw_926, by decide +kernel, (fun x q h => by cases h)⟩)⟩
theorem it_0_643 (Ls : Nat) (xs : Nat → Int32) : xPI Ls xs md_0 643 (.inl (xs_is 7 6 645)) := by
  exact xs_istore_ok d_0_643
theorem it_0_645 (Ls : Nat) (xs : Nat → Int32) : xPI Ls xs md_0 645 (.inl (xs_al 2 646)) := by
  exact xs_aload_n_ok d_0_645 rfl
theorem it_0_646 (Ls : Nat) (xs : Nat → Int32) : xPI Ls xs md_0 646 (.inr (.inl (67, 1, 8, []))) := by
  exact ⟨md_67, rfl, tw_7, by decide, ⟨by decide, by decide⟩, Or.inr (Or.inr ⟨6, R_6, T_6, N_6, 81, 0, rfl, rfl, rfl, rfl, d_0_646, tw_876, tw_877, tw_878, by decide +kernel, (fun x q h => by cases h)⟩)⟩
theorem it_0_649 (Ls : Nat) (xs : Nat → Int32) : xPI Ls xs md_0 649 (.inl (xs_il 5 651)) := by
  exact xs_iload_ok d_0_649
theorem it_0_651 (Ls : Nat) (xs : Nat → Int32) : xPI Ls xs md_0 651 (.inl (xs_ic_eq 656 654)) := by
  exact xs_ic_eq_ok d_0_651 (by decide)
theorem it_0_654 (Ls : Nat) (xs : Nat → Int32) : xPI Ls xs md_0 654 (.inl (xs_c (0) 655)) := by
  exact xs_iconst_ok d_0_654 (by decide)
theorem it_0_655 (Ls : Nat) (xs : Nat → Int32) : xPI Ls xs md_0 655 (.inr (.inr 2)) := by
  exact ⟨rfl, d_0_655⟩
theorem it_0_656 (Ls : Nat) (xs : Nat → Int32) : xPI Ls xs md_0 656 (.inl (xs_il 5 658)) := by
  exact xs_iload_ok d_0_656
theorem it_0_658 (Ls : Nat) (xs : Nat → Int32) : xPI Ls xs md_0 658 (.inl (xs_if_ne 680 661)) := by
  exact xs_if_ne_ok d_0_658 (by decide)
theorem it_0_661 (Ls : Nat) (xs : Nat → Int32) : xPI Ls xs md_0 661 (.inl (xs_al 3 662)) := by
  exact xs_aload_n_ok d_0_661 rfl
theorem it_0_662 (Ls : Nat) (xs : Nat → Int32) : xPI Ls xs md_0 662 (.inl (xs_c (0) 663)) := by
  exact xs_iconst_ok d_0_662 (by decide)
theorem it_0_663 (Ls : Nat) (xs : Nat → Int32) : xPI Ls xs md_0 663 (.inl (xs_la 664)) := by
  exact xs_la_ok d_0_663
theorem it_0_664 (Ls : Nat) (xs : Nat → Int32) : xPI Ls xs md_0 664 (.inl (xs_il 6 666)) := by
  exact xs_iload_ok d_0_664
theorem it_0_666 (Ls : Nat) (xs : Nat → Int32) : xPI Ls xs md_0 666 (.inl (xs_if_eq 673 669)) := by
  exact xs_if_eq_ok d_0_666 (by decide)
theorem it_0_669 (Ls : Nat) (xs : Nat → Int32) : xPI Ls xs md_0 669 (.inl (xs_cl (1) 670)) := by
  exact xs_lconst_ok d_0_669 (by decide)
theorem it_0_670 (Ls : Nat) (xs : Nat → Int32) : xPI Ls xs md_0 670 (.inl (xs_goto 674)) := by
  exact xs_goto_ok d_0_670 (by decide)
theorem it_0_673 (Ls : Nat) (xs : Nat → Int32) : xPI Ls xs md_0 673 (.inl (xs_cl (0) 674)) := by
  exact xs_lconst_ok d_0_673 (by decide)
theorem it_0_674 (Ls : Nat) (xs : Nat → Int32) : xPI Ls xs md_0 674 (.inl (xs_lcmp 675)) := by
  exact xs_lcmp_ok d_0_674
theorem it_0_675 (Ls : Nat) (xs : Nat → Int32) : xPI Ls xs md_0 675 (.inl (xs_if_eq 680 678)) := by
  exact xs_if_eq_ok d_0_675 (by decide)
theorem it_0_678 (Ls : Nat) (xs : Nat → Int32) : xPI Ls xs md_0 678 (.inl (xs_c (0) 679)) := by
  exact xs_iconst_ok d_0_678 (by decide)
theorem it_0_679 (Ls : Nat) (xs : Nat → Int32) : xPI Ls xs md_0 679 (.inr (.inr 2)) := by
  exact ⟨rfl, d_0_679⟩
theorem it_0_680 (Ls : Nat) (xs : Nat → Int32) : xPI Ls xs md_0 680 (.inl (xs_goto 972)) := by
  exact xs_goto_ok d_0_680 (by decide)
theorem it_0_683 (Ls : Nat) (xs : Nat → Int32) : xPI Ls xs md_0 683 (.inl (xs_al 1 684)) := by
  exact xs_aload_n_ok d_0_683 rfl
theorem it_0_684 (Ls : Nat) (xs : Nat → Int32) : xPI Ls xs md_0 684 (.inl (xs_al 0 685)) := by
  exact xs_aload_n_ok d_0_684 rfl
theorem it_0_685 (Ls : Nat) (xs : Nat → Int32) : xPI Ls xs md_0 685 (.inl (xs_il 4 687)) := by
  exact xs_iload_ok d_0_685
theorem it_0_687 (Ls : Nat) (xs : Nat → Int32) : xPI Ls xs md_0 687 (.inl (xs_c (1) 688)) := by
  exact xs_iconst_ok d_0_687 (by decide)
theorem it_0_688 (Ls : Nat) (xs : Nat → Int32) : xPI Ls xs md_0 688 (.inl (xs_iadd 689)) := by
  exact xs_iadd_ok d_0_688
theorem it_0_689 (Ls : Nat) (xs : Nat → Int32) : xPI Ls xs md_0 689 (.inl (xs_ia Ls xs 690)) := by
  exact xs_ia_ok d_0_689
theorem it_0_690 (Ls : Nat) (xs : Nat → Int32) : xPI Ls xs md_0 690 (.inl (xs_al 3 691)) := by
  exact xs_aload_n_ok d_0_690 rfl
theorem it_0_691 (Ls : Nat) (xs : Nat → Int32) : xPI Ls xs md_0 691 (.inr (.inl (10, 3, 0, []))) := by
  exact ⟨md_10, rfl, tw_0, by decide, ⟨by decide, by decide⟩, Or.inl ⟨rfl, rfl, 125, d_0_691, tw_692, tw_693, by decide +kernel⟩⟩
theorem it_0_694 (Ls : Nat) (xs : Nat → Int32) : xPI Ls xs md_0 694 (.inl (xs_is 7 5 696)) := by
  exact xs_istore_ok d_0_694
theorem it_0_696 (Ls : Nat) (xs : Nat → Int32) : xPI Ls xs md_0 696 (.inl (xs_al 2 697)) := by
  exact xs_aload_n_ok d_0_696 rfl
theorem it_0_697 (Ls : Nat) (xs : Nat → Int32) : xPI Ls xs md_0 697 (.inl (xs_al 0 698)) := by
  exact xs_aload_n_ok d_0_697 rfl
theorem it_0_698 (Ls : Nat) (xs : Nat → Int32) : xPI Ls xs md_0 698 (.inl (xs_il 4 700)) := by
  exact xs_iload_ok d_0_698
theorem it_0_700 (Ls : Nat) (xs : Nat → Int32) : xPI Ls xs md_0 700 (.inl (xs_c (1) 701)) := by
  exact xs_iconst_ok d_0_700 (by decide)
theorem it_0_701 (Ls : Nat) (xs : Nat → Int32) : xPI Ls xs md_0 701 (.inl (xs_iadd 702)) := by
  exact xs_iadd_ok d_0_701
theorem it_0_702 (Ls : Nat) (xs : Nat → Int32) : xPI Ls xs md_0 702 (.inl (xs_ia Ls xs 703)) := by
  exact xs_ia_ok d_0_702
theorem it_0_703 (Ls : Nat) (xs : Nat → Int32) : xPI Ls xs md_0 703 (.inr (.inl (81, 2, 8, []))) := by
  exact ⟨md_81, rfl, tw_7, by decide, ⟨by decide, by decide⟩, Or.inr (Or.inr ⟨6, R_6, T_6, N_6, 127, 1, rfl, rfl, rfl, rfl, d_0_703, tw_928, tw_929, tw_930, by decide +kernel, (fun x q h => by cases h)⟩)⟩
theorem it_0_706 (Ls : Nat) (xs : Nat → Int32) : xPI Ls xs md_0 706 (.inl (xs_is 7 6 708)) := by
  exact xs_istore_ok d_0_706
theorem it_0_708 (Ls : Nat) (xs : Nat → Int32) : xPI Ls xs md_0 708 (.inl (xs_al 2 709)) := by
  exact xs_aload_n_ok d_0_708 rfl
theorem it_0_709 (Ls : Nat) (xs : Nat → Int32) : xPI Ls xs md_0 709 (.inr (.inl (67, 1, 8, []))) := by
  exact ⟨md_67, rfl, tw_7, by decide, ⟨by decide, by decide⟩, Or.inr (Or.inr ⟨6, R_6, T_6, N_6, 81, 0, rfl, rfl, rfl, rfl, d_0_709, tw_876, tw_877, tw_878, by decide +kernel, (fun x q h => by cases h)⟩)⟩
theorem it_0_712 (Ls : Nat) (xs : Nat → Int32) : xPI Ls xs md_0 712 (.inl (xs_il 5 714)) := by
  exact xs_iload_ok d_0_712
theorem it_0_714 (Ls : Nat) (xs : Nat → Int32) : xPI Ls xs md_0 714 (.inl (xs_ic_eq 719 717)) := by
  exact xs_ic_eq_ok d_0_714 (by decide)
theorem it_0_717 (Ls : Nat) (xs : Nat → Int32) : xPI Ls xs md_0 717 (.inl (xs_c (0) 718)) := by
  exact xs_iconst_ok d_0_717 (by decide)
theorem it_0_718 (Ls : Nat) (xs : Nat → Int32) : xPI Ls xs md_0 718 (.inr (.inr 2)) := by
  exact ⟨rfl, d_0_718⟩
theorem it_0_719 (Ls : Nat) (xs : Nat → Int32) : xPI Ls xs md_0 719 (.inl (xs_il 5 721)) := by
  exact xs_iload_ok d_0_719
theorem it_0_721 (Ls : Nat) (xs : Nat → Int32) : xPI Ls xs md_0 721 (.inl (xs_if_ne 736 724)) := by
  exact xs_if_ne_ok d_0_721 (by decide)
theorem it_0_724 (Ls : Nat) (xs : Nat → Int32) : xPI Ls xs md_0 724 (.inl (xs_al 3 725)) := by
  exact xs_aload_n_ok d_0_724 rfl
theorem it_0_725 (Ls : Nat) (xs : Nat → Int32) : xPI Ls xs md_0 725 (.inl (xs_c (0) 726)) := by
  exact xs_iconst_ok d_0_725 (by decide)
theorem it_0_726 (Ls : Nat) (xs : Nat → Int32) : xPI Ls xs md_0 726 (.inl (xs_la 727)) := by
  exact xs_la_ok d_0_726
theorem it_0_727 (Ls : Nat) (xs : Nat → Int32) : xPI Ls xs md_0 727 (.inl (xs_il 6 729)) := by
  exact xs_iload_ok d_0_727
theorem it_0_729 (Ls : Nat) (xs : Nat → Int32) : xPI Ls xs md_0 729 (.inl (xs_i2l 730)) := by
  exact xs_i2l_ok d_0_729
theorem it_0_730 (Ls : Nat) (xs : Nat → Int32) : xPI Ls xs md_0 730 (.inl (xs_lcmp 731)) := by
  exact xs_lcmp_ok d_0_730
theorem it_0_731 (Ls : Nat) (xs : Nat → Int32) : xPI Ls xs md_0 731 (.inl (xs_if_eq 736 734)) := by
  exact xs_if_eq_ok d_0_731 (by decide)
theorem it_0_734 (Ls : Nat) (xs : Nat → Int32) : xPI Ls xs md_0 734 (.inl (xs_c (0) 735)) := by
  exact xs_iconst_ok d_0_734 (by decide)
theorem it_0_735 (Ls : Nat) (xs : Nat → Int32) : xPI Ls xs md_0 735 (.inr (.inr 2)) := by
  exact ⟨rfl, d_0_735⟩
theorem it_0_736 (Ls : Nat) (xs : Nat → Int32) : xPI Ls xs md_0 736 (.inl (xs_goto 972)) := by
  exact xs_goto_ok d_0_736 (by decide)
theorem it_0_739 (Ls : Nat) (xs : Nat → Int32) : xPI Ls xs md_0 739 (.inl (xs_al 1 740)) := by
  exact xs_aload_n_ok d_0_739 rfl
theorem it_0_740 (Ls : Nat) (xs : Nat → Int32) : xPI Ls xs md_0 740 (.inr (.inl (11, 1, 0, []))) := by
  exact ⟨md_11, rfl, tw_0, by decide, ⟨by decide, by decide⟩, Or.inl ⟨rfl, rfl, 128, d_0_740, tw_700, tw_701, by decide +kernel⟩⟩
theorem it_0_743 (Ls : Nat) (xs : Nat → Int32) : xPI Ls xs md_0 743 (.inl (xs_is 7 5 745)) := by
  exact xs_istore_ok d_0_743
theorem it_0_745 (Ls : Nat) (xs : Nat → Int32) : xPI Ls xs md_0 745 (.inl (xs_al 2 746)) := by
  exact xs_aload_n_ok d_0_745 rfl
theorem it_0_746 (Ls : Nat) (xs : Nat → Int32) : xPI Ls xs md_0 746 (.inr (.inl (90, 1, 8, []))) := by
  exact ⟨md_90, rfl, tw_7, by decide, ⟨by decide, by decide⟩, Or.inr (Or.inr ⟨6, R_6, T_6, N_6, 131, 0, rfl, rfl, rfl, rfl, d_0_746, tw_1020, tw_1021, tw_1022, by decide +kernel, (fun x q h => by cases h)⟩)⟩
theorem it_0_749 (Ls : Nat) (xs : Nat → Int32) : xPI Ls xs md_0 749 (.inl (xs_al 2 750)) := by
  exact xs_aload_n_ok d_0_749 rfl
theorem it_0_750 (Ls : Nat) (xs : Nat → Int32) : xPI Ls xs md_0 750 (.inr (.inl (67, 1, 8, []))) := by
  exact ⟨md_67, rfl, tw_7, by decide, ⟨by decide, by decide⟩, Or.inr (Or.inr ⟨6, R_6, T_6, N_6, 81, 0, rfl, rfl, rfl, rfl, d_0_750, tw_876, tw_877, tw_878, by decide +kernel, (fun x q h => by cases h)⟩)⟩
theorem it_0_753 (Ls : Nat) (xs : Nat → Int32) : xPI Ls xs md_0 753 (.inl (xs_il 5 755)) := by
  exact xs_iload_ok d_0_753
theorem it_0_755 (Ls : Nat) (xs : Nat → Int32) : xPI Ls xs md_0 755 (.inl (xs_ic_eq 760 758)) := by
  exact xs_ic_eq_ok d_0_755 (by decide)
theorem it_0_758 (Ls : Nat) (xs : Nat → Int32) : xPI Ls xs md_0 758 (.inl (xs_c (0) 759)) := by
  exact xs_iconst_ok d_0_758 (by decide)
theorem it_0_759 (Ls : Nat) (xs : Nat → Int32) : xPI Ls xs md_0 759 (.inr (.inr 2)) := by
  exact ⟨rfl, d_0_759⟩
theorem it_0_760 (Ls : Nat) (xs : Nat → Int32) : xPI Ls xs md_0 760 (.inl (xs_goto 972)) := by
  exact xs_goto_ok d_0_760 (by decide)
theorem it_0_763 (Ls : Nat) (xs : Nat → Int32) : xPI Ls xs md_0 763 (.inl (xs_al 1 764)) := by
  exact xs_aload_n_ok d_0_763 rfl
theorem it_0_764 (Ls : Nat) (xs : Nat → Int32) : xPI Ls xs md_0 764 (.inl (xs_al 0 765)) := by
  exact xs_aload_n_ok d_0_764 rfl
theorem it_0_765 (Ls : Nat) (xs : Nat → Int32) : xPI Ls xs md_0 765 (.inl (xs_il 4 767)) := by
  exact xs_iload_ok d_0_765
theorem it_0_767 (Ls : Nat) (xs : Nat → Int32) : xPI Ls xs md_0 767 (.inl (xs_c (1) 768)) := by
  exact xs_iconst_ok d_0_767 (by decide)
theorem it_0_768 (Ls : Nat) (xs : Nat → Int32) : xPI Ls xs md_0 768 (.inl (xs_iadd 769)) := by
  exact xs_iadd_ok d_0_768
theorem it_0_769 (Ls : Nat) (xs : Nat → Int32) : xPI Ls xs md_0 769 (.inl (xs_ia Ls xs 770)) := by
  exact xs_ia_ok d_0_769
theorem it_0_770 (Ls : Nat) (xs : Nat → Int32) : xPI Ls xs md_0 770 (.inl (xs_al 3 771)) := by
  exact xs_aload_n_ok d_0_770 rfl
theorem it_0_771 (Ls : Nat) (xs : Nat → Int32) : xPI Ls xs md_0 771 (.inr (.inl (12, 3, 0, []))) := by
  exact ⟨md_12, rfl, tw_0, by decide, ⟨by decide, by decide⟩, Or.inl ⟨rfl, rfl, 132, d_0_771, tw_712, tw_713, by decide +kernel⟩⟩
theorem it_0_774 (Ls : Nat) (xs : Nat → Int32) : xPI Ls xs md_0 774 (.inl (xs_is 7 5 776)) := by
  exact xs_istore_ok d_0_774
theorem it_0_776 (Ls : Nat) (xs : Nat → Int32) : xPI Ls xs md_0 776 (.inl (xs_al 2 777)) := by
  exact xs_aload_n_ok d_0_776 rfl
theorem it_0_777 (Ls : Nat) (xs : Nat → Int32) : xPI Ls xs md_0 777 (.inl (xs_al 0 778)) := by
  exact xs_aload_n_ok d_0_777 rfl
theorem it_0_778 (Ls : Nat) (xs : Nat → Int32) : xPI Ls xs md_0 778 (.inl (xs_il 4 780)) := by
  exact xs_iload_ok d_0_778
theorem it_0_780 (Ls : Nat) (xs : Nat → Int32) : xPI Ls xs md_0 780 (.inl (xs_c (1) 781)) := by
  exact xs_iconst_ok d_0_780 (by decide)
theorem it_0_781 (Ls : Nat) (xs : Nat → Int32) : xPI Ls xs md_0 781 (.inl (xs_iadd 782)) := by
  exact xs_iadd_ok d_0_781
theorem it_0_782 (Ls : Nat) (xs : Nat → Int32) : xPI Ls xs md_0 782 (.inl (xs_ia Ls xs 783)) := by
  exact xs_ia_ok d_0_782
theorem it_0_783 (Ls : Nat) (xs : Nat → Int32) : xPI Ls xs md_0 783 (.inr (.inl (91, 2, 8, []))) := by
  exact ⟨md_91, rfl, tw_7, by decide, ⟨by decide, by decide⟩, Or.inr (Or.inr ⟨6, R_6, T_6, N_6, 134, 1, rfl, rfl, rfl, rfl, d_0_783, tw_1024, tw_1025, tw_1026, by decide +kernel, (fun x q h => by cases h)⟩)⟩
theorem it_0_786 (Ls : Nat) (xs : Nat → Int32) : xPI Ls xs md_0 786 (.inl (xs_is 7 6 788)) := by
  exact xs_istore_ok d_0_786
theorem it_0_788 (Ls : Nat) (xs : Nat → Int32) : xPI Ls xs md_0 788 (.inl (xs_al 2 789)) := by
  exact xs_aload_n_ok d_0_788 rfl
theorem it_0_789 (Ls : Nat) (xs : Nat → Int32) : xPI Ls xs md_0 789 (.inr (.inl (67, 1, 8, []))) := by
  exact ⟨md_67, rfl, tw_7, by decide, ⟨by decide, by decide⟩, Or.inr (Or.inr ⟨6, R_6, T_6, N_6, 81, 0, rfl, rfl, rfl, rfl, d_0_789, tw_876, tw_877, tw_878, by decide +kernel, (fun x q h => by cases h)⟩)⟩
theorem it_0_792 (Ls : Nat) (xs : Nat → Int32) : xPI Ls xs md_0 792 (.inl (xs_il 5 794)) := by
  exact xs_iload_ok d_0_792
theorem it_0_794 (Ls : Nat) (xs : Nat → Int32) : xPI Ls xs md_0 794 (.inl (xs_ic_eq 799 797)) := by
  exact xs_ic_eq_ok d_0_794 (by decide)
theorem it_0_797 (Ls : Nat) (xs : Nat → Int32) : xPI Ls xs md_0 797 (.inl (xs_c (0) 798)) := by
  exact xs_iconst_ok d_0_797 (by decide)
theorem it_0_798 (Ls : Nat) (xs : Nat → Int32) : xPI Ls xs md_0 798 (.inr (.inr 2)) := by
  exact ⟨rfl, d_0_798⟩
theorem it_0_799 (Ls : Nat) (xs : Nat → Int32) : xPI Ls xs md_0 799 (.inl (xs_il 5 801)) := by
  exact xs_iload_ok d_0_799
theorem it_0_801 (Ls : Nat) (xs : Nat → Int32) : xPI Ls xs md_0 801 (.inl (xs_if_ne 823 804)) := by
  exact xs_if_ne_ok d_0_801 (by decide)
theorem it_0_804 (Ls : Nat) (xs : Nat → Int32) : xPI Ls xs md_0 804 (.inl (xs_al 3 805)) := by
  exact xs_aload_n_ok d_0_804 rfl
theorem it_0_805 (Ls : Nat) (xs : Nat → Int32) : xPI Ls xs md_0 805 (.inl (xs_c (0) 806)) := by
  exact xs_iconst_ok d_0_805 (by decide)
theorem it_0_806 (Ls : Nat) (xs : Nat → Int32) : xPI Ls xs md_0 806 (.inl (xs_la 807)) := by
  exact xs_la_ok d_0_806
theorem it_0_807 (Ls : Nat) (xs : Nat → Int32) : xPI Ls xs md_0 807 (.inl (xs_il 6 809)) := by
  exact xs_iload_ok d_0_807
theorem it_0_809 (Ls : Nat) (xs : Nat → Int32) : xPI Ls xs md_0 809 (.inl (xs_if_eq 816 812)) := by
  exact xs_if_eq_ok d_0_809 (by decide)
theorem it_0_812 (Ls : Nat) (xs : Nat → Int32) : xPI Ls xs md_0 812 (.inl (xs_cl (1) 813)) := by
  exact xs_lconst_ok d_0_812 (by decide)
theorem it_0_813 (Ls : Nat) (xs : Nat → Int32) : xPI Ls xs md_0 813 (.inl (xs_goto 817)) := by
  exact xs_goto_ok d_0_813 (by decide)
theorem it_0_816 (Ls : Nat) (xs : Nat → Int32) : xPI Ls xs md_0 816 (.inl (xs_cl (0) 817)) := by
  exact xs_lconst_ok d_0_816 (by decide)
theorem it_0_817 (Ls : Nat) (xs : Nat → Int32) : xPI Ls xs md_0 817 (.inl (xs_lcmp 818)) := by
  exact xs_lcmp_ok d_0_817
theorem it_0_818 (Ls : Nat) (xs : Nat → Int32) : xPI Ls xs md_0 818 (.inl (xs_if_eq 823 821)) := by
  exact xs_if_eq_ok d_0_818 (by decide)
theorem it_0_821 (Ls : Nat) (xs : Nat → Int32) : xPI Ls xs md_0 821 (.inl (xs_c (0) 822)) := by
  exact xs_iconst_ok d_0_821 (by decide)
theorem it_0_822 (Ls : Nat) (xs : Nat → Int32) : xPI Ls xs md_0 822 (.inr (.inr 2)) := by
  exact ⟨rfl, d_0_822⟩
theorem it_0_823 (Ls : Nat) (xs : Nat → Int32) : xPI Ls xs md_0 823 (.inl (xs_goto 972)) := by
  exact xs_goto_ok d_0_823 (by decide)
theorem it_0_826 (Ls : Nat) (xs : Nat → Int32) : xPI Ls xs md_0 826 (.inl (xs_al 1 827)) := by
  exact xs_aload_n_ok d_0_826 rfl
theorem it_0_827 (Ls : Nat) (xs : Nat → Int32) : xPI Ls xs md_0 827 (.inl (xs_al 3 828)) := by
  exact xs_aload_n_ok d_0_827 rfl
theorem it_0_828 (Ls : Nat) (xs : Nat → Int32) : xPI Ls xs md_0 828 (.inr (.inl (13, 2, 0, []))) := by
  exact ⟨md_13, rfl, tw_0, by decide, ⟨by decide, by decide⟩, Or.inl ⟨rfl, rfl, 135, d_0_828, tw_753, tw_754, by decide +kernel⟩⟩
theorem it_0_831 (Ls : Nat) (xs : Nat → Int32) : xPI Ls xs md_0 831 (.inl (xs_is 7 5 833)) := by
  exact xs_istore_ok d_0_831
theorem it_0_833 (Ls : Nat) (xs : Nat → Int32) : xPI Ls xs md_0 833 (.inl (xs_al 2 834)) := by
  exact xs_aload_n_ok d_0_833 rfl
theorem it_0_834 (Ls : Nat) (xs : Nat → Int32) : xPI Ls xs md_0 834 (.inr (.inl (92, 1, 8, []))) := by
  exact ⟨md_92, rfl, tw_7, by decide, ⟨by decide, by decide⟩, Or.inr (Or.inr ⟨6, R_6, T_6, N_6, 137, 0, rfl, rfl, rfl, rfl, d_0_834, tw_1032, tw_1033, tw_1034, by decide +kernel, (fun x q h => by cases h)⟩)⟩
theorem it_0_837 (Ls : Nat) (xs : Nat → Int32) : xPI Ls xs md_0 837 (.inl (xs_is 7 6 839)) := by
  exact xs_istore_ok d_0_837
theorem it_0_839 (Ls : Nat) (xs : Nat → Int32) : xPI Ls xs md_0 839 (.inl (xs_al 2 840)) := by
  exact xs_aload_n_ok d_0_839 rfl
theorem it_0_840 (Ls : Nat) (xs : Nat → Int32) : xPI Ls xs md_0 840 (.inr (.inl (67, 1, 8, []))) := by
  exact ⟨md_67, rfl, tw_7, by decide, ⟨by decide, by decide⟩, Or.inr (Or.inr ⟨6, R_6, T_6, N_6, 81, 0, rfl, rfl, rfl, rfl, d_0_840, tw_876, tw_877, tw_878, by decide +kernel, (fun x q h => by cases h)⟩)⟩
theorem it_0_843 (Ls : Nat) (xs : Nat → Int32) : xPI Ls xs md_0 843 (.inl (xs_il 5 845)) := by
  exact xs_iload_ok d_0_843
theorem it_0_845 (Ls : Nat) (xs : Nat → Int32) : xPI Ls xs md_0 845 (.inl (xs_ic_eq 850 848)) := by
  exact xs_ic_eq_ok d_0_845 (by decide)
theorem it_0_848 (Ls : Nat) (xs : Nat → Int32) : xPI Ls xs md_0 848 (.inl (xs_c (0) 849)) := by
  exact xs_iconst_ok d_0_848 (by decide)
theorem it_0_849 (Ls : Nat) (xs : Nat → Int32) : xPI Ls xs md_0 849 (.inr (.inr 2)) := by
  exact ⟨rfl, d_0_849⟩
theorem it_0_850 (Ls : Nat) (xs : Nat → Int32) : xPI Ls xs md_0 850 (.inl (xs_il 5 852)) := by
  exact xs_iload_ok d_0_850
theorem it_0_852 (Ls : Nat) (xs : Nat → Int32) : xPI Ls xs md_0 852 (.inl (xs_if_ne 874 855)) := by
  exact xs_if_ne_ok d_0_852 (by decide)
theorem it_0_855 (Ls : Nat) (xs : Nat → Int32) : xPI Ls xs md_0 855 (.inl (xs_al 3 856)) := by
  exact xs_aload_n_ok d_0_855 rfl
theorem it_0_856 (Ls : Nat) (xs : Nat → Int32) : xPI Ls xs md_0 856 (.inl (xs_c (0) 857)) := by
  exact xs_iconst_ok d_0_856 (by decide)
theorem it_0_857 (Ls : Nat) (xs : Nat → Int32) : xPI Ls xs md_0 857 (.inl (xs_la 858)) := by
  exact xs_la_ok d_0_857
theorem it_0_858 (Ls : Nat) (xs : Nat → Int32) : xPI Ls xs md_0 858 (.inl (xs_il 6 860)) := by
  exact xs_iload_ok d_0_858
theorem it_0_860 (Ls : Nat) (xs : Nat → Int32) : xPI Ls xs md_0 860 (.inl (xs_if_eq 867 863)) := by
  exact xs_if_eq_ok d_0_860 (by decide)
theorem it_0_863 (Ls : Nat) (xs : Nat → Int32) : xPI Ls xs md_0 863 (.inl (xs_cl (1) 864)) := by
  exact xs_lconst_ok d_0_863 (by decide)
theorem it_0_864 (Ls : Nat) (xs : Nat → Int32) : xPI Ls xs md_0 864 (.inl (xs_goto 868)) := by
  exact xs_goto_ok d_0_864 (by decide)
theorem it_0_867 (Ls : Nat) (xs : Nat → Int32) : xPI Ls xs md_0 867 (.inl (xs_cl (0) 868)) := by
  exact xs_lconst_ok d_0_867 (by decide)
theorem it_0_868 (Ls : Nat) (xs : Nat → Int32) : xPI Ls xs md_0 868 (.inl (xs_lcmp 869)) := by
  exact xs_lcmp_ok d_0_868
theorem it_0_869 (Ls : Nat) (xs : Nat → Int32) : xPI Ls xs md_0 869 (.inl (xs_if_eq 874 872)) := by
  exact xs_if_eq_ok d_0_869 (by decide)
theorem it_0_872 (Ls : Nat) (xs : Nat → Int32) : xPI Ls xs md_0 872 (.inl (xs_c (0) 873)) := by
  exact xs_iconst_ok d_0_872 (by decide)
theorem it_0_873 (Ls : Nat) (xs : Nat → Int32) : xPI Ls xs md_0 873 (.inr (.inr 2)) := by
  exact ⟨rfl, d_0_873⟩
theorem it_0_874 (Ls : Nat) (xs : Nat → Int32) : xPI Ls xs md_0 874 (.inl (xs_goto 972)) := by
  exact xs_goto_ok d_0_874 (by decide)
theorem it_0_877 (Ls : Nat) (xs : Nat → Int32) : xPI Ls xs md_0 877 (.inl (xs_al 1 878)) := by
  exact xs_aload_n_ok d_0_877 rfl
theorem it_0_878 (Ls : Nat) (xs : Nat → Int32) : xPI Ls xs md_0 878 (.inr (.inl (32, 1, 2, []))) := by
  exact ⟨md_32, rfl, tw_1, by decide, ⟨by decide, by decide⟩, Or.inr (Or.inr ⟨0, R_0, T_0, N_0, 138, 0, rfl, rfl, rfl, rfl, d_0_878, tw_233, tw_234, tw_235, by decide +kernel, (fun x q h => by cases h)⟩)⟩
theorem it_0_881 (Ls : Nat) (xs : Nat → Int32) : xPI Ls xs md_0 881 (.inl (xs_al 2 882)) := by
  exact xs_aload_n_ok d_0_881 rfl
theorem it_0_882 (Ls : Nat) (xs : Nat → Int32) : xPI Ls xs md_0 882 (.inr (.inl (93, 1, 8, []))) := by
  exact ⟨md_93, rfl, tw_7, by decide, ⟨by decide, by decide⟩, Or.inr (Or.inr ⟨6, R_6, T_6, N_6, 141, 0, rfl, rfl, rfl, rfl, d_0_882, tw_1036, tw_1037, tw_1038, by decide +kernel, (fun x q h => by cases h)⟩)⟩
theorem it_0_885 (Ls : Nat) (xs : Nat → Int32) : xPI Ls xs md_0 885 (.inl (xs_ic_eq 972 888)) := by
  exact xs_ic_eq_ok d_0_885 (by decide)
theorem it_0_888 (Ls : Nat) (xs : Nat → Int32) : xPI Ls xs md_0 888 (.inl (xs_c (0) 889)) := by
  exact xs_iconst_ok d_0_888 (by decide)
theorem it_0_889 (Ls : Nat) (xs : Nat → Int32) : xPI Ls xs md_0 889 (.inr (.inr 2)) := by
  exact ⟨rfl, d_0_889⟩
theorem it_0_890 (Ls : Nat) (xs : Nat → Int32) : xPI Ls xs md_0 890 (.inl (xs_al 1 891)) := by
  exact xs_aload_n_ok d_0_890 rfl
theorem it_0_891 (Ls : Nat) (xs : Nat → Int32) : xPI Ls xs md_0 891 (.inr (.inl (33, 1, 2, []))) := by
  exact ⟨md_33, rfl, tw_1, by decide, ⟨by decide, by decide⟩, Or.inr (Or.inr ⟨0, R_0, T_0, N_0, 142, 0, rfl, rfl, rfl, rfl, d_0_891, tw_241, tw_242, tw_243, by decide +kernel, (fun x q h => by cases h)⟩)⟩
theorem it_0_894 (Ls : Nat) (xs : Nat → Int32) : xPI Ls xs md_0 894 (.inl (xs_al 2 895)) := by
  exact xs_aload_n_ok d_0_894 rfl
theorem it_0_895 (Ls : Nat) (xs : Nat → Int32) : xPI Ls xs md_0 895 (.inr (.inl (94, 1, 8, []))) := by
  exact ⟨md_94, rfl, tw_7, by decide, ⟨by decide, by decide⟩, Or.inr (Or.inr ⟨6, R_6, T_6, N_6, 145, 0, rfl, rfl, rfl, rfl, d_0_895, tw_1040, tw_1041, tw_1042, by decide +kernel, (fun x q h => by cases h)⟩)⟩
theorem it_0_898 (Ls : Nat) (xs : Nat → Int32) : xPI Ls xs md_0 898 (.inl (xs_ic_eq 972 901)) := by
  exact xs_ic_eq_ok d_0_898 (by decide)
theorem it_0_901 (Ls : Nat) (xs : Nat → Int32) : xPI Ls xs md_0 901 (.inl (xs_c (0) 902)) := by
  exact xs_iconst_ok d_0_901 (by decide)
theorem it_0_902 (Ls : Nat) (xs : Nat → Int32) : xPI Ls xs md_0 902 (.inr (.inr 2)) := by
  exact ⟨rfl, d_0_902⟩
theorem it_0_903 (Ls : Nat) (xs : Nat → Int32) : xPI Ls xs md_0 903 (.inl (xs_al 1 904)) := by
  exact xs_aload_n_ok d_0_903 rfl
theorem it_0_904 (Ls : Nat) (xs : Nat → Int32) : xPI Ls xs md_0 904 (.inr (.inl (34, 1, 2, []))) := by
  exact ⟨md_34, rfl, tw_1, by decide, ⟨by decide, by decide⟩, Or.inr (Or.inr ⟨0, R_0, T_0, N_0, 146, 0, rfl, rfl, rfl, rfl, d_0_904, tw_249, tw_250, tw_251, by decide +kernel, (fun x q h => by cases h)⟩)⟩
theorem it_0_907 (Ls : Nat) (xs : Nat → Int32) : xPI Ls xs md_0 907 (.inl (xs_al 2 908)) := by
  exact xs_aload_n_ok d_0_907 rfl
theorem it_0_908 (Ls : Nat) (xs : Nat → Int32) : xPI Ls xs md_0 908 (.inr (.inl (95, 1, 8, []))) := by
  exact ⟨md_95, rfl, tw_7, by decide, ⟨by decide, by decide⟩, Or.inr (Or.inr ⟨6, R_6, T_6, N_6, 149, 0, rfl, rfl, rfl, rfl, d_0_908, tw_1044, tw_1045, tw_1046, by decide +kernel, (fun x q h => by cases h)⟩)⟩
theorem it_0_911 (Ls : Nat) (xs : Nat → Int32) : xPI Ls xs md_0 911 (.inl (xs_ic_eq 972 914)) := by
  exact xs_ic_eq_ok d_0_911 (by decide)
theorem it_0_914 (Ls : Nat) (xs : Nat → Int32) : xPI Ls xs md_0 914 (.inl (xs_c (0) 915)) := by
  exact xs_iconst_ok d_0_914 (by decide)
theorem it_0_915 (Ls : Nat) (xs : Nat → Int32) : xPI Ls xs md_0 915 (.inr (.inr 2)) := by
  exact ⟨rfl, d_0_915⟩
theorem it_0_916 (Ls : Nat) (xs : Nat → Int32) : xPI Ls xs md_0 916 (.inl (xs_al 1 917)) := by
  exact xs_aload_n_ok d_0_916 rfl
theorem it_0_917 (Ls : Nat) (xs : Nat → Int32) : xPI Ls xs md_0 917 (.inl (xs_al 0 918)) := by
  exact xs_aload_n_ok d_0_917 rfl
theorem it_0_918 (Ls : Nat) (xs : Nat → Int32) : xPI Ls xs md_0 918 (.inl (xs_il 4 920)) := by
  exact xs_iload_ok d_0_918
theorem it_0_920 (Ls : Nat) (xs : Nat → Int32) : xPI Ls xs md_0 920 (.inl (xs_c (1) 921)) := by
  exact xs_iconst_ok d_0_920 (by decide)
theorem it_0_921 (Ls : Nat) (xs : Nat → Int32) : xPI Ls xs md_0 921 (.inl (xs_iadd 922)) := by
  exact xs_iadd_ok d_0_921
theorem it_0_922 (Ls : Nat) (xs : Nat → Int32) : xPI Ls xs md_0 922 (.inl (xs_ia Ls xs 923)) := by
  exact xs_ia_ok d_0_922
theorem it_0_923 (Ls : Nat) (xs : Nat → Int32) : xPI Ls xs md_0 923 (.inl (xs_al 3 924)) := by
  exact xs_aload_n_ok d_0_923 rfl
theorem it_0_924 (Ls : Nat) (xs : Nat → Int32) : xPI Ls xs md_0 924 (.inr (.inl (14, 3, 0, []))) := by
  exact ⟨md_14, rfl, tw_0, by decide, ⟨by decide, by decide⟩, Or.inl ⟨rfl, rfl, 150, d_0_924, tw_762, tw_763, by decide +kernel⟩⟩
theorem it_0_927 (Ls : Nat) (xs : Nat → Int32) : xPI Ls xs md_0 927 (.inl (xs_is 7 5 929)) := by
  exact xs_istore_ok d_0_927
theorem it_0_929 (Ls : Nat) (xs : Nat → Int32) : xPI Ls xs md_0 929 (.inl (xs_al 2 930)) := by
  exact xs_aload_n_ok d_0_929 rfl
theorem it_0_930 (Ls : Nat) (xs : Nat → Int32) : xPI Ls xs md_0 930 (.inl (xs_al 0 931)) := by
  exact xs_aload_n_ok d_0_930 rfl
theorem it_0_931 (Ls : Nat) (xs : Nat → Int32) : xPI Ls xs md_0 931 (.inl (xs_il 4 933)) := by
  exact xs_iload_ok d_0_931
theorem it_0_933 (Ls : Nat) (xs : Nat → Int32) : xPI Ls xs md_0 933 (.inl (xs_c (1) 934)) := by
  exact xs_iconst_ok d_0_933 (by decide)
theorem it_0_934 (Ls : Nat) (xs : Nat → Int32) : xPI Ls xs md_0 934 (.inl (xs_iadd 935)) := by
  exact xs_iadd_ok d_0_934
theorem it_0_935 (Ls : Nat) (xs : Nat → Int32) : xPI Ls xs md_0 935 (.inl (xs_ia Ls xs 936)) := by
  exact xs_ia_ok d_0_935
theorem it_0_936 (Ls : Nat) (xs : Nat → Int32) : xPI Ls xs md_0 936 (.inr (.inl (96, 2, 8, []))) := by
  exact ⟨md_96, rfl, tw_7, by decide, ⟨by decide, by decide⟩, Or.inr (Or.inr ⟨6, R_6, T_6, N_6, 152, 1, rfl, rfl, rfl, rfl, d_0_936, tw_1048, tw_1049, tw_1050, by decide +kernel, (fun x q h => by cases h)⟩)⟩
theorem it_0_939 (Ls : Nat) (xs : Nat → Int32) : xPI Ls xs md_0 939 (.inl (xs_is 7 6 941)) := by
  exact xs_istore_ok d_0_939
theorem it_0_941 (Ls : Nat) (xs : Nat → Int32) : xPI Ls xs md_0 941 (.inl (xs_al 2 942)) := by
  exact xs_aload_n_ok d_0_941 rfl
theorem it_0_942 (Ls : Nat) (xs : Nat → Int32) : xPI Ls xs md_0 942 (.inr (.inl (67, 1, 8, []))) := by
  exact ⟨md_67, rfl, tw_7, by decide, ⟨by decide, by decide⟩, Or.inr (Or.inr ⟨6, R_6, T_6, N_6, 81, 0, rfl, rfl, rfl, rfl, d_0_942, tw_876, tw_877, tw_878, by decide +kernel, (fun x q h => by cases h)⟩)⟩
theorem it_0_945 (Ls : Nat) (xs : Nat → Int32) : xPI Ls xs md_0 945 (.inl (xs_il 5 947)) := by
  exact xs_iload_ok d_0_945
theorem it_0_947 (Ls : Nat) (xs : Nat → Int32) : xPI Ls xs md_0 947 (.inl (xs_ic_eq 952 950)) := by
  exact xs_ic_eq_ok d_0_947 (by decide)
theorem it_0_950 (Ls : Nat) (xs : Nat → Int32) : xPI Ls xs md_0 950 (.inl (xs_c (0) 951)) := by
  exact xs_iconst_ok d_0_950 (by decide)
theorem it_0_951 (Ls : Nat) (xs : Nat → Int32) : xPI Ls xs md_0 951 (.inr (.inr 2)) := by
  exact ⟨rfl, d_0_951⟩
theorem it_0_952 (Ls : Nat) (xs : Nat → Int32) : xPI Ls xs md_0 952 (.inl (xs_il 5 954)) := by
  exact xs_iload_ok d_0_952
theorem it_0_954 (Ls : Nat) (xs : Nat → Int32) : xPI Ls xs md_0 954 (.inl (xs_if_ne 969 957)) := by
  exact xs_if_ne_ok d_0_954 (by decide)
theorem it_0_957 (Ls : Nat) (xs : Nat → Int32) : xPI Ls xs md_0 957 (.inl (xs_al 3 958)) := by
  exact xs_aload_n_ok d_0_957 rfl
theorem it_0_958 (Ls : Nat) (xs : Nat → Int32) : xPI Ls xs md_0 958 (.inl (xs_c (0) 959)) := by
  exact xs_iconst_ok d_0_958 (by decide)
theorem it_0_959 (Ls : Nat) (xs : Nat → Int32) : xPI Ls xs md_0 959 (.inl (xs_la 960)) := by
  exact xs_la_ok d_0_959
theorem it_0_960 (Ls : Nat) (xs : Nat → Int32) : xPI Ls xs md_0 960 (.inl (xs_il 6 962)) := by
  exact xs_iload_ok d_0_960
theorem it_0_962 (Ls : Nat) (xs : Nat → Int32) : xPI Ls xs md_0 962 (.inl (xs_i2l 963)) := by
  exact xs_i2l_ok d_0_962
theorem it_0_963 (Ls : Nat) (xs : Nat → Int32) : xPI Ls xs md_0 963 (.inl (xs_lcmp 964)) := by
  exact xs_lcmp_ok d_0_963
theorem it_0_964 (Ls : Nat) (xs : Nat → Int32) : xPI Ls xs md_0 964 (.inl (xs_if_eq 969 967)) := by
  exact xs_if_eq_ok d_0_964 (by decide)
theorem it_0_967 (Ls : Nat) (xs : Nat → Int32) : xPI Ls xs md_0 967 (.inl (xs_c (0) 968)) := by
  exact xs_iconst_ok d_0_967 (by decide)
theorem it_0_968 (Ls : Nat) (xs : Nat → Int32) : xPI Ls xs md_0 968 (.inr (.inr 2)) := by
  exact ⟨rfl, d_0_968⟩
theorem it_0_969 (Ls : Nat) (xs : Nat → Int32) : xPI Ls xs md_0 969 (.inl (xs_goto 972)) := by
  exact xs_goto_ok d_0_969 (by decide)
theorem it_0_972 (Ls : Nat) (xs : Nat → Int32) : xPI Ls xs md_0 972 (.inl (xs_inc 7 4 (4) 975)) := by
  exact xs_iinc_ok d_0_972 (by decide)
theorem it_0_975 (Ls : Nat) (xs : Nat → Int32) : xPI Ls xs md_0 975 (.inl (xs_goto 43)) := by
  exact xs_goto_ok d_0_975 (by decide)
theorem it_0_978 (Ls : Nat) (xs : Nat → Int32) : xPI Ls xs md_0 978 (.inl (xs_c (1) 979)) := by
  exact xs_iconst_ok d_0_978 (by decide)
theorem it_0_979 (Ls : Nat) (xs : Nat → Int32) : xPI Ls xs md_0 979 (.inr (.inr 2)) := by
  exact ⟨rfl, d_0_979⟩
def K_0 (Ls : Nat) (xs : Nat → Int32) : Nat → Option xK := xbt 525 (xbt 320 (xbt 200 (xbt 56 (xbt 29 (xbt 14 (xbt 6 (xbt 4 (xbt 3 (xlf 0 (.inl (xs_nw 600003 7302198 0 5 [.null, .null, .null, .null, .int 0] 3))) (xlf 3 (.inl (xs_dup 4)))) (xbt 5 (xlf 4 (.inl (xs_al 0 5))) (xlf 5 (.inl (xs_c (0) 6))))) (xbt 10 (xbt 9 (xlf 6 (.inr (.inl (1, 2, 0, [])))) (xlf 9 (.inl (xs_al 0 10)))) (xbt 11 (xlf 10 (.inl (xs_c (1) 11))) (xlf 11 (.inr (.inl (1, 2, 0, []))))))) (xbt 22 (xbt 18 (xbt 17 (xlf 14 (.inr (.inl (15, 3, 1, [])))) (xlf 17 (.inl (xs_as 7 1 18)))) (xbt 21 (xlf 18 (.inl (xs_nw 600003 7302198 6 29 [.int 0, .int 0, .int 0, .int 0, .int 0, .null, .null, .null, .null, .null, .int 0, .null, .null, .null, .null, .int 0, .int 0, .null, .null, .int 0, .int 0, .int 0, .null, .int 0, .int 0, .null, .int 0, .null, .int 0] 21))) (xlf 21 (.inl (xs_dup 22))))) (xbt 24 (xbt 23 (xlf 22 (.inl (xs_al 0 23))) (xlf 23 (.inl (xs_c (0) 24)))) (xbt 27 (xlf 24 (.inr (.inl (1, 2, 0, [])))) (xbt 28 (xlf 27 (.inl (xs_al 0 28))) (xlf 28 (.inl (xs_c (1) 29)))))))) (xbt 43 (xbt 37 (xbt 35 (xbt 32 (xlf 29 (.inr (.inl (1, 2, 0, [])))) (xlf 32 (.inr (.inl (66, 3, 1, []))))) (xbt 36 (xlf 35 (.inl (xs_as 7 2 36))) (xlf 36 (.inl (xs_c (1) 37))))) (xbt 40 (xbt 39 (xlf 37 (.inl (xs_naj 600003 7302198 39))) (xlf 39 (.inl (xs_as 7 3 40)))) (xbt 41 (xlf 40 (.inl (xs_c (2) 41))) (xlf 41 (.inl (xs_is 7 4 43)))))) (xbt 48 (xbt 46 (xbt 45 (xlf 43 (.inl (xs_il 4 45))) (xlf 45 (.inl (xs_al 0 46)))) (xbt 47 (xlf 46 (.inl (xs_len Ls 47))) (xlf 47 (.inl (xs_c (4) 48))))) (xbt 52 (xbt 49 (xlf 48 (.inl (xs_isub 49))) (xlf 49 (.inl (xs_ic_gt 978 52)))) (xbt 53 (xlf 52 (.inl (xs_al 0 53))) (xbt 55 (xlf 53 (.inl (xs_il 4 55))) (xlf 55 (.inl (xs_ia Ls xs 56))))))))) (xbt 171 (xbt 158 (xbt 153 (xbt 59 (xbt 58 (xlf 56 (.inl (xs_c (31) 58))) (xlf 58 (.inl (xs_iand 59)))) (xbt 152 (xlf 59 (.inl (xs_ts [152, 208, 244, 255, 266, 310, 335, 348, 404, 484, 552, 620, 683, 739, 763, 826, 877, 890, 903, 916] 972))) (xlf 152 (.inl (xs_al 1 153))))) (xbt 156 (xbt 154 (xlf 153 (.inl (xs_al 0 154))) (xlf 154 (.inl (xs_il 4 156)))) (xbt 157 (xlf 156 (.inl (xs_c (1) 157))) (xlf 157 (.inl (xs_iadd 158)))))) (xbt 165 (xbt 160 (xbt 159 (xlf 158 (.inl (xs_ia Ls xs 159))) (xlf 159 (.inl (xs_al 3 160)))) (xbt 163 (xlf 160 (.inr (.inl (2, 3, 0, [])))) (xlf 163 (.inl (xs_is 7 5 165))))) (xbt 167 (xbt 166 (xlf 165 (.inl (xs_al 2 166))) (xlf 166 (.inl (xs_al 0 167)))) (xbt 169 (xlf 167 (.inl (xs_il 4 169))) (xbt 170 (xlf 169 (.inl (xs_c (1) 170))) (xlf 170 (.inl (xs_iadd 171)))))))) (xbt 187 (xbt 178 (xbt 175 (xbt 172 (xlf 171 (.inl (xs_ia Ls xs 172))) (xlf 172 (.inr (.inl (72, 2, 8, []))))) (xbt 177 (xlf 175 (.inl (xs_is 7 6 177))) (xlf 177 (.inl (xs_al 2 178))))) (xbt 183 (xbt 181 (xlf 178 (.inr (.inl (67, 1, 8, [])))) (xlf 181 (.inl (xs_il 5 183)))) (xbt 186 (xlf 183 (.inl (xs_ic_eq 188 186))) (xlf 186 (.inl (xs_c (0) 187)))))) (xbt 194 (xbt 190 (xbt 188 (xlf 187 (.inr (.inr 2))) (xlf 188 (.inl (xs_il 5 190)))) (xbt 193 (xlf 190 (.inl (xs_if_ne 205 193))) (xlf 193 (.inl (xs_al 3 194))))) (xbt 196 (xbt 195 (xlf 194 (.inl (xs_c (0) 195))) (xlf 195 (.inl (xs_la 196)))) (xbt 198 (xlf 196 (.inl (xs_il 6 198))) (xbt 199 (xlf 198 (.inl (xs_i2l 199))) (xlf 199 (.inl (xs_lcmp 200)))))))))) (xbt 260 (xbt 226 (xbt 213 (xbt 208 (xbt 204 (xbt 203 (xlf 200 (.inl (xs_if_eq 205 203))) (xlf 203 (.inl (xs_c (0) 204)))) (xbt 205 (xlf 204 (.inr (.inr 2))) (xlf 205 (.inl (xs_goto 972))))) (xbt 210 (xbt 209 (xlf 208 (.inl (xs_al 1 209))) (xlf 209 (.inl (xs_al 0 210)))) (xbt 212 (xlf 210 (.inl (xs_il 4 212))) (xlf 212 (.inl (xs_c (1) 213)))))) (xbt 220 (xbt 215 (xbt 214 (xlf 213 (.inl (xs_iadd 214))) (xlf 214 (.inl (xs_ia Ls xs 215)))) (xbt 218 (xlf 215 (.inr (.inl (3, 2, 0, [])))) (xlf 218 (.inl (xs_is 7 5 220))))) (xbt 222 (xbt 221 (xlf 220 (.inl (xs_al 2 221))) (xlf 221 (.inl (xs_al 0 222)))) (xbt 224 (xlf 222 (.inl (xs_il 4 224))) (xbt 225 (xlf 224 (.inl (xs_c (1) 225))) (xlf 225 (.inl (xs_iadd 226)))))))) (xbt 241 (xbt 234 (xbt 230 (xbt 227 (xlf 226 (.inl (xs_ia Ls xs 227))) (xlf 227 (.inr (.inl (73, 2, 8, []))))) (xbt 231 (xlf 230 (.inl (xs_al 2 231))) (xlf 231 (.inr (.inl (67, 1, 8, [])))))) (xbt 239 (xbt 236 (xlf 234 (.inl (xs_il 5 236))) (xlf 236 (.inl (xs_ic_eq 241 239)))) (xbt 240 (xlf 239 (.inl (xs_c (0) 240))) (xlf 240 (.inr (.inr 2)))))) (xbt 249 (xbt 245 (xbt 244 (xlf 241 (.inl (xs_goto 972))) (xlf 244 (.inl (xs_al 1 245)))) (xbt 248 (xlf 245 (.inr (.inl (18, 1, 2, [])))) (xlf 248 (.inl (xs_al 2 249))))) (xbt 255 (xbt 252 (xlf 249 (.inr (.inl (74, 1, 8, [])))) (xlf 252 (.inl (xs_goto 972)))) (xbt 256 (xlf 255 (.inl (xs_al 1 256))) (xbt 259 (xlf 256 (.inr (.inl (19, 1, 2, [])))) (xlf 259 (.inl (xs_al 2 260))))))))) (xbt 295 (xbt 277 (xbt 268 (xbt 266 (xbt 263 (xlf 260 (.inr (.inl (75, 1, 8, [])))) (xlf 263 (.inl (xs_goto 972)))) (xbt 267 (xlf 266 (.inl (xs_al 1 267))) (xlf 267 (.inl (xs_al 3 268))))) (xbt 273 (xbt 271 (xlf 268 (.inr (.inl (4, 2, 0, [])))) (xlf 271 (.inl (xs_is 7 5 273)))) (xbt 274 (xlf 273 (.inl (xs_al 2 274))) (xlf 274 (.inr (.inl (82, 1, 8, []))))))) (xbt 285 (xbt 280 (xbt 279 (xlf 277 (.inl (xs_is 7 6 279))) (xlf 279 (.inl (xs_al 2 280)))) (xbt 283 (xlf 280 (.inr (.inl (67, 1, 8, [])))) (xlf 283 (.inl (xs_il 5 285))))) (xbt 289 (xbt 288 (xlf 285 (.inl (xs_ic_eq 290 288))) (xlf 288 (.inl (xs_c (0) 289)))) (xbt 290 (xlf 289 (.inr (.inr 2))) (xbt 292 (xlf 290 (.inl (xs_il 5 292))) (xlf 292 (.inl (xs_if_ne 307 295)))))))) (xbt 306 (xbt 300 (xbt 297 (xbt 296 (xlf 295 (.inl (xs_al 3 296))) (xlf 296 (.inl (xs_c (0) 297)))) (xbt 298 (xlf 297 (.inl (xs_la 298))) (xlf 298 (.inl (xs_il 6 300))))) (xbt 302 (xbt 301 (xlf 300 (.inl (xs_i2l 301))) (xlf 301 (.inl (xs_lcmp 302)))) (xbt 305 (xlf 302 (.inl (xs_if_eq 307 305))) (xlf 305 (.inl (xs_c (0) 306)))))) (xbt 312 (xbt 310 (xbt 307 (xlf 306 (.inr (.inr 2))) (xlf 307 (.inl (xs_goto 972)))) (xbt 311 (xlf 310 (.inl (xs_al 1 311))) (xlf 311 (.inl (xs_al 0 312))))) (xbt 315 (xbt 314 (xlf 312 (.inl (xs_il 4 314))) (xlf 314 (.inl (xs_c (1) 315)))) (xbt 316 (xlf 315 (.inl (xs_iadd 316))) (xbt 317 (xlf 316 (.inl (xs_ia Ls xs 317))) (xlf 317 (.inr (.inl (21, 2, 2, [])))))))))))) (xbt 423 (xbt 373 (xbt 348 (xbt 333 (xbt 325 (xbt 322 (xbt 321 (xlf 320 (.inl (xs_al 2 321))) (xlf 321 (.inl (xs_al 0 322)))) (xbt 324 (xlf 322 (.inl (xs_il 4 324))) (xlf 324 (.inl (xs_c (1) 325))))) (xbt 327 (xbt 326 (xlf 325 (.inl (xs_iadd 326))) (xlf 326 (.inl (xs_ia Ls xs 327)))) (xbt 330 (xlf 327 (.inr (.inl (83, 2, 8, [])))) (xlf 330 (.inl (xs_ic_eq 972 333)))))) (xbt 339 (xbt 335 (xbt 334 (xlf 333 (.inl (xs_c (0) 334))) (xlf 334 (.inr (.inr 2)))) (xbt 336 (xlf 335 (.inl (xs_al 1 336))) (xlf 336 (.inr (.inl (22, 1, 2, [])))))) (xbt 343 (xbt 340 (xlf 339 (.inl (xs_al 2 340))) (xlf 340 (.inr (.inl (84, 1, 8, []))))) (xbt 346 (xlf 343 (.inl (xs_ic_eq 972 346))) (xbt 347 (xlf 346 (.inl (xs_c (0) 347))) (xlf 347 (.inr (.inr 2)))))))) (xbt 359 (xbt 353 (xbt 350 (xbt 349 (xlf 348 (.inl (xs_al 1 349))) (xlf 349 (.inl (xs_al 0 350)))) (xbt 352 (xlf 350 (.inl (xs_il 4 352))) (xlf 352 (.inl (xs_c (1) 353))))) (xbt 355 (xbt 354 (xlf 353 (.inl (xs_iadd 354))) (xlf 354 (.inl (xs_ia Ls xs 355)))) (xbt 356 (xlf 355 (.inl (xs_al 3 356))) (xlf 356 (.inr (.inl (5, 3, 0, []))))))) (xbt 365 (xbt 362 (xbt 361 (xlf 359 (.inl (xs_is 7 5 361))) (xlf 361 (.inl (xs_al 2 362)))) (xbt 363 (xlf 362 (.inl (xs_al 0 363))) (xlf 363 (.inl (xs_il 4 365))))) (xbt 367 (xbt 366 (xlf 365 (.inl (xs_c (1) 366))) (xlf 366 (.inl (xs_iadd 367)))) (xbt 368 (xlf 367 (.inl (xs_ia Ls xs 368))) (xbt 371 (xlf 368 (.inr (.inl (86, 2, 8, [])))) (xlf 371 (.inl (xs_is 7 6 373))))))))) (xbt 401 (xbt 389 (xbt 382 (xbt 377 (xbt 374 (xlf 373 (.inl (xs_al 2 374))) (xlf 374 (.inr (.inl (67, 1, 8, []))))) (xbt 379 (xlf 377 (.inl (xs_il 5 379))) (xlf 379 (.inl (xs_ic_eq 384 382))))) (xbt 384 (xbt 383 (xlf 382 (.inl (xs_c (0) 383))) (xlf 383 (.inr (.inr 2)))) (xbt 386 (xlf 384 (.inl (xs_il 5 386))) (xlf 386 (.inl (xs_if_ne 401 389)))))) (xbt 394 (xbt 391 (xbt 390 (xlf 389 (.inl (xs_al 3 390))) (xlf 390 (.inl (xs_c (0) 391)))) (xbt 392 (xlf 391 (.inl (xs_la 392))) (xlf 392 (.inl (xs_il 6 394))))) (xbt 396 (xbt 395 (xlf 394 (.inl (xs_i2l 395))) (xlf 395 (.inl (xs_lcmp 396)))) (xbt 399 (xlf 396 (.inl (xs_if_eq 401 399))) (xbt 400 (xlf 399 (.inl (xs_c (0) 400))) (xlf 400 (.inr (.inr 2)))))))) (xbt 412 (xbt 408 (xbt 405 (xbt 404 (xlf 401 (.inl (xs_goto 972))) (xlf 404 (.inl (xs_al 1 405)))) (xbt 406 (xlf 405 (.inl (xs_al 0 406))) (xlf 406 (.inl (xs_il 4 408))))) (xbt 410 (xbt 409 (xlf 408 (.inl (xs_c (1) 409))) (xlf 409 (.inl (xs_iadd 410)))) (xbt 411 (xlf 410 (.inl (xs_ia Ls xs 411))) (xlf 411 (.inl (xs_al 0 412)))))) (xbt 417 (xbt 415 (xbt 414 (xlf 412 (.inl (xs_il 4 414))) (xlf 414 (.inl (xs_c (2) 415)))) (xbt 416 (xlf 415 (.inl (xs_iadd 416))) (xlf 416 (.inl (xs_ia Ls xs 417))))) (xbt 420 (xbt 418 (xlf 417 (.inl (xs_al 0 418))) (xlf 418 (.inl (xs_il 4 420)))) (xbt 421 (xlf 420 (.inl (xs_c (3) 421))) (xbt 422 (xlf 421 (.inl (xs_iadd 422))) (xlf 422 (.inl (xs_ia Ls xs 423)))))))))) (xbt 475 (xbt 446 (xbt 435 (xbt 430 (xbt 427 (xbt 424 (xlf 423 (.inl (xs_al 3 424))) (xlf 424 (.inr (.inl (6, 5, 0, []))))) (xbt 429 (xlf 427 (.inl (xs_is 7 5 429))) (xlf 429 (.inl (xs_al 2 430))))) (xbt 433 (xbt 431 (xlf 430 (.inl (xs_al 0 431))) (xlf 431 (.inl (xs_il 4 433)))) (xbt 434 (xlf 433 (.inl (xs_c (1) 434))) (xlf 434 (.inl (xs_iadd 435)))))) (xbt 440 (xbt 437 (xbt 436 (xlf 435 (.inl (xs_ia Ls xs 436))) (xlf 436 (.inl (xs_al 0 437)))) (xbt 439 (xlf 437 (.inl (xs_il 4 439))) (xlf 439 (.inl (xs_c (2) 440))))) (xbt 442 (xbt 441 (xlf 440 (.inl (xs_iadd 441))) (xlf 441 (.inl (xs_ia Ls xs 442)))) (xbt 443 (xlf 442 (.inl (xs_al 0 443))) (xbt 445 (xlf 443 (.inl (xs_il 4 445))) (xlf 445 (.inl (xs_c (3) 446)))))))) (xbt 462 (xbt 453 (xbt 448 (xbt 447 (xlf 446 (.inl (xs_iadd 447))) (xlf 447 (.inl (xs_ia Ls xs 448)))) (xbt 451 (xlf 448 (.inr (.inl (87, 4, 8, [])))) (xlf 451 (.inl (xs_is 7 6 453))))) (xbt 457 (xbt 454 (xlf 453 (.inl (xs_al 2 454))) (xlf 454 (.inr (.inl (67, 1, 8, []))))) (xbt 459 (xlf 457 (.inl (xs_il 5 459))) (xlf 459 (.inl (xs_ic_eq 464 462)))))) (xbt 469 (xbt 464 (xbt 463 (xlf 462 (.inl (xs_c (0) 463))) (xlf 463 (.inr (.inr 2)))) (xbt 466 (xlf 464 (.inl (xs_il 5 466))) (xlf 466 (.inl (xs_if_ne 481 469))))) (xbt 471 (xbt 470 (xlf 469 (.inl (xs_al 3 470))) (xlf 470 (.inl (xs_c (0) 471)))) (xbt 472 (xlf 471 (.inl (xs_la 472))) (xbt 474 (xlf 472 (.inl (xs_il 6 474))) (xlf 474 (.inl (xs_i2l 475))))))))) (xbt 498 (xbt 488 (xbt 481 (xbt 479 (xbt 476 (xlf 475 (.inl (xs_lcmp 476))) (xlf 476 (.inl (xs_if_eq 481 479)))) (xbt 480 (xlf 479 (.inl (xs_c (0) 480))) (xlf 480 (.inr (.inr 2))))) (xbt 485 (xbt 484 (xlf 481 (.inl (xs_goto 972))) (xlf 484 (.inl (xs_al 1 485)))) (xbt 486 (xlf 485 (.inl (xs_al 0 486))) (xlf 486 (.inl (xs_il 4 488)))))) (xbt 492 (xbt 490 (xbt 489 (xlf 488 (.inl (xs_c (1) 489))) (xlf 489 (.inl (xs_iadd 490)))) (xbt 491 (xlf 490 (.inl (xs_ia Ls xs 491))) (xlf 491 (.inl (xs_al 0 492))))) (xbt 495 (xbt 494 (xlf 492 (.inl (xs_il 4 494))) (xlf 494 (.inl (xs_c (2) 495)))) (xbt 496 (xlf 495 (.inl (xs_iadd 496))) (xbt 497 (xlf 496 (.inl (xs_ia Ls xs 497))) (xlf 497 (.inl (xs_al 3 498)))))))) (xbt 510 (xbt 505 (xbt 503 (xbt 501 (xlf 498 (.inr (.inl (7, 4, 0, [])))) (xlf 501 (.inl (xs_is 7 5 503)))) (xbt 504 (xlf 503 (.inl (xs_al 2 504))) (xlf 504 (.inl (xs_al 0 505))))) (xbt 508 (xbt 507 (xlf 505 (.inl (xs_il 4 507))) (xlf 507 (.inl (xs_c (1) 508)))) (xbt 509 (xlf 508 (.inl (xs_iadd 509))) (xlf 509 (.inl (xs_ia Ls xs 510)))))) (xbt 515 (xbt 513 (xbt 511 (xlf 510 (.inl (xs_al 0 511))) (xlf 511 (.inl (xs_il 4 513)))) (xbt 514 (xlf 513 (.inl (xs_c (2) 514))) (xlf 514 (.inl (xs_iadd 515))))) (xbt 519 (xbt 516 (xlf 515 (.inl (xs_ia Ls xs 516))) (xlf 516 (.inr (.inl (88, 3, 8, []))))) (xbt 521 (xlf 519 (.inl (xs_is 7 6 521))) (xbt 522 (xlf 521 (.inl (xs_al 2 522))) (xlf 522 (.inr (.inl (67, 1, 8, []))))))))))))) (xbt 743 (xbt 628 (xbt 576 (xbt 553 (xbt 539 (xbt 532 (xbt 530 (xbt 527 (xlf 525 (.inl (xs_il 5 527))) (xlf 527 (.inl (xs_ic_eq 532 530)))) (xbt 531 (xlf 530 (.inl (xs_c (0) 531))) (xlf 531 (.inr (.inr 2))))) (xbt 537 (xbt 534 (xlf 532 (.inl (xs_il 5 534))) (xlf 534 (.inl (xs_if_ne 549 537)))) (xbt 538 (xlf 537 (.inl (xs_al 3 538))) (xlf 538 (.inl (xs_c (0) 539)))))) (xbt 544 (xbt 542 (xbt 540 (xlf 539 (.inl (xs_la 540))) (xlf 540 (.inl (xs_il 6 542)))) (xbt 543 (xlf 542 (.inl (xs_i2l 543))) (xlf 543 (.inl (xs_lcmp 544))))) (xbt 548 (xbt 547 (xlf 544 (.inl (xs_if_eq 549 547))) (xlf 547 (.inl (xs_c (0) 548)))) (xbt 549 (xlf 548 (.inr (.inr 2))) (xbt 552 (xlf 549 (.inl (xs_goto 972))) (xlf 552 (.inl (xs_al 1 553)))))))) (xbt 563 (xbt 558 (xbt 556 (xbt 554 (xlf 553 (.inl (xs_al 0 554))) (xlf 554 (.inl (xs_il 4 556)))) (xbt 557 (xlf 556 (.inl (xs_c (1) 557))) (xlf 557 (.inl (xs_iadd 558))))) (xbt 560 (xbt 559 (xlf 558 (.inl (xs_ia Ls xs 559))) (xlf 559 (.inl (xs_al 0 560)))) (xbt 562 (xlf 560 (.inl (xs_il 4 562))) (xlf 562 (.inl (xs_c (2) 563)))))) (xbt 569 (xbt 565 (xbt 564 (xlf 563 (.inl (xs_iadd 564))) (xlf 564 (.inl (xs_ia Ls xs 565)))) (xbt 566 (xlf 565 (.inl (xs_al 3 566))) (xlf 566 (.inr (.inl (8, 4, 0, [])))))) (xbt 572 (xbt 571 (xlf 569 (.inl (xs_is 7 5 571))) (xlf 571 (.inl (xs_al 2 572)))) (xbt 573 (xlf 572 (.inl (xs_al 0 573))) (xbt 575 (xlf 573 (.inl (xs_il 4 575))) (xlf 575 (.inl (xs_c (1) 576))))))))) (xbt 605 (xbt 587 (xbt 581 (xbt 578 (xbt 577 (xlf 576 (.inl (xs_iadd 577))) (xlf 577 (.inl (xs_ia Ls xs 578)))) (xbt 579 (xlf 578 (.inl (xs_al 0 579))) (xlf 579 (.inl (xs_il 4 581))))) (xbt 583 (xbt 582 (xlf 581 (.inl (xs_c (2) 582))) (xlf 582 (.inl (xs_iadd 583)))) (xbt 584 (xlf 583 (.inl (xs_ia Ls xs 584))) (xlf 584 (.inr (.inl (89, 3, 8, []))))))) (xbt 595 (xbt 590 (xbt 589 (xlf 587 (.inl (xs_is 7 6 589))) (xlf 589 (.inl (xs_al 2 590)))) (xbt 593 (xlf 590 (.inr (.inl (67, 1, 8, [])))) (xlf 593 (.inl (xs_il 5 595))))) (xbt 599 (xbt 598 (xlf 595 (.inl (xs_ic_eq 600 598))) (xlf 598 (.inl (xs_c (0) 599)))) (xbt 600 (xlf 599 (.inr (.inr 2))) (xbt 602 (xlf 600 (.inl (xs_il 5 602))) (xlf 602 (.inl (xs_if_ne 617 605)))))))) (xbt 616 (xbt 610 (xbt 607 (xbt 606 (xlf 605 (.inl (xs_al 3 606))) (xlf 606 (.inl (xs_c (0) 607)))) (xbt 608 (xlf 607 (.inl (xs_la 608))) (xlf 608 (.inl (xs_il 6 610))))) (xbt 612 (xbt 611 (xlf 610 (.inl (xs_i2l 611))) (xlf 611 (.inl (xs_lcmp 612)))) (xbt 615 (xlf 612 (.inl (xs_if_eq 617 615))) (xlf 615 (.inl (xs_c (0) 616)))))) (xbt 622 (xbt 620 (xbt 617 (xlf 616 (.inr (.inr 2))) (xlf 617 (.inl (xs_goto 972)))) (xbt 621 (xlf 620 (.inl (xs_al 1 621))) (xlf 621 (.inl (xs_al 0 622))))) (xbt 625 (xbt 624 (xlf 622 (.inl (xs_il 4 624))) (xlf 624 (.inl (xs_c (1) 625)))) (xbt 626 (xlf 625 (.inl (xs_iadd 626))) (xbt 627 (xlf 626 (.inl (xs_ia Ls xs 627))) (xlf 627 (.inl (xs_al 3 628)))))))))) (xbt 687 (xbt 658 (xbt 640 (xbt 635 (xbt 633 (xbt 631 (xlf 628 (.inr (.inl (9, 3, 0, [])))) (xlf 631 (.inl (xs_is 7 5 633)))) (xbt 634 (xlf 633 (.inl (xs_al 2 634))) (xlf 634 (.inl (xs_al 0 635))))) (xbt 638 (xbt 637 (xlf 635 (.inl (xs_il 4 637))) (xlf 637 (.inl (xs_c (1) 638)))) (xbt 639 (xlf 638 (.inl (xs_iadd 639))) (xlf 639 (.inl (xs_ia Ls xs 640)))))) (xbt 649 (xbt 645 (xbt 643 (xlf 640 (.inr (.inl (80, 2, 8, [])))) (xlf 643 (.inl (xs_is 7 6 645)))) (xbt 646 (xlf 645 (.inl (xs_al 2 646))) (xlf 646 (.inr (.inl (67, 1, 8, [])))))) (xbt 654 (xbt 651 (xlf 649 (.inl (xs_il 5 651))) (xlf 651 (.inl (xs_ic_eq 656 654)))) (xbt 655 (xlf 654 (.inl (xs_c (0) 655))) (xbt 656 (xlf 655 (.inr (.inr 2))) (xlf 656 (.inl (xs_il 5 658)))))))) (xbt 673 (xbt 664 (xbt 662 (xbt 661 (xlf 658 (.inl (xs_if_ne 680 661))) (xlf 661 (.inl (xs_al 3 662)))) (xbt 663 (xlf 662 (.inl (xs_c (0) 663))) (xlf 663 (.inl (xs_la 664))))) (xbt 669 (xbt 666 (xlf 664 (.inl (xs_il 6 666))) (xlf 666 (.inl (xs_if_eq 673 669)))) (xbt 670 (xlf 669 (.inl (xs_cl (1) 670))) (xlf 670 (.inl (xs_goto 674)))))) (xbt 679 (xbt 675 (xbt 674 (xlf 673 (.inl (xs_cl (0) 674))) (xlf 674 (.inl (xs_lcmp 675)))) (xbt 678 (xlf 675 (.inl (xs_if_eq 680 678))) (xlf 678 (.inl (xs_c (0) 679))))) (xbt 683 (xbt 680 (xlf 679 (.inr (.inr 2))) (xlf 680 (.inl (xs_goto 972)))) (xbt 684 (xlf 683 (.inl (xs_al 1 684))) (xbt 685 (xlf 684 (.inl (xs_al 0 685))) (xlf 685 (.inl (xs_il 4 687))))))))) (xbt 714 (xbt 698 (xbt 691 (xbt 689 (xbt 688 (xlf 687 (.inl (xs_c (1) 688))) (xlf 688 (.inl (xs_iadd 689)))) (xbt 690 (xlf 689 (.inl (xs_ia Ls xs 690))) (xlf 690 (.inl (xs_al 3 691))))) (xbt 696 (xbt 694 (xlf 691 (.inr (.inl (10, 3, 0, [])))) (xlf 694 (.inl (xs_is 7 5 696)))) (xbt 697 (xlf 696 (.inl (xs_al 2 697))) (xlf 697 (.inl (xs_al 0 698)))))) (xbt 703 (xbt 701 (xbt 700 (xlf 698 (.inl (xs_il 4 700))) (xlf 700 (.inl (xs_c (1) 701)))) (xbt 702 (xlf 701 (.inl (xs_iadd 702))) (xlf 702 (.inl (xs_ia Ls xs 703))))) (xbt 708 (xbt 706 (xlf 703 (.inr (.inl (81, 2, 8, [])))) (xlf 706 (.inl (xs_is 7 6 708)))) (xbt 709 (xlf 708 (.inl (xs_al 2 709))) (xbt 712 (xlf 709 (.inr (.inl (67, 1, 8, [])))) (xlf 712 (.inl (xs_il 5 714)))))))) (xbt 727 (xbt 721 (xbt 718 (xbt 717 (xlf 714 (.inl (xs_ic_eq 719 717))) (xlf 717 (.inl (xs_c (0) 718)))) (xbt 719 (xlf 718 (.inr (.inr 2))) (xlf 719 (.inl (xs_il 5 721))))) (xbt 725 (xbt 724 (xlf 721 (.inl (xs_if_ne 736 724))) (xlf 724 (.inl (xs_al 3 725)))) (xbt 726 (xlf 725 (.inl (xs_c (0) 726))) (xlf 726 (.inl (xs_la 727)))))) (xbt 734 (xbt 730 (xbt 729 (xlf 727 (.inl (xs_il 6 729))) (xlf 729 (.inl (xs_i2l 730)))) (xbt 731 (xlf 730 (.inl (xs_lcmp 731))) (xlf 731 (.inl (xs_if_eq 736 734))))) (xbt 736 (xbt 735 (xlf 734 (.inl (xs_c (0) 735))) (xlf 735 (.inr (.inr 2)))) (xbt 739 (xlf 736 (.inl (xs_goto 972))) (xbt 740 (xlf 739 (.inl (xs_al 1 740))) (xlf 740 (.inr (.inl (11, 1, 0, [])))))))))))) (xbt 863 (xbt 801 (xbt 771 (xbt 759 (xbt 750 (xbt 746 (xbt 745 (xlf 743 (.inl (xs_is 7 5 745))) (xlf 745 (.inl (xs_al 2 746)))) (xbt 749 (xlf 746 (.inr (.inl (90, 1, 8, [])))) (xlf 749 (.inl (xs_al 2 750))))) (xbt 755 (xbt 753 (xlf 750 (.inr (.inl (67, 1, 8, [])))) (xlf 753 (.inl (xs_il 5 755)))) (xbt 758 (xlf 755 (.inl (xs_ic_eq 760 758))) (xlf 758 (.inl (xs_c (0) 759)))))) (xbt 765 (xbt 763 (xbt 760 (xlf 759 (.inr (.inr 2))) (xlf 760 (.inl (xs_goto 972)))) (xbt 764 (xlf 763 (.inl (xs_al 1 764))) (xlf 764 (.inl (xs_al 0 765))))) (xbt 768 (xbt 767 (xlf 765 (.inl (xs_il 4 767))) (xlf 767 (.inl (xs_c (1) 768)))) (xbt 769 (xlf 768 (.inl (xs_iadd 769))) (xbt 770 (xlf 769 (.inl (xs_ia Ls xs 770))) (xlf 770 (.inl (xs_al 3 771)))))))) (xbt 783 (xbt 778 (xbt 776 (xbt 774 (xlf 771 (.inr (.inl (12, 3, 0, [])))) (xlf 774 (.inl (xs_is 7 5 776)))) (xbt 777 (xlf 776 (.inl (xs_al 2 777))) (xlf 777 (.inl (xs_al 0 778))))) (xbt 781 (xbt 780 (xlf 778 (.inl (xs_il 4 780))) (xlf 780 (.inl (xs_c (1) 781)))) (xbt 782 (xlf 781 (.inl (xs_iadd 782))) (xlf 782 (.inl (xs_ia Ls xs 783)))))) (xbt 792 (xbt 788 (xbt 786 (xlf 783 (.inr (.inl (91, 2, 8, [])))) (xlf 786 (.inl (xs_is 7 6 788)))) (xbt 789 (xlf 788 (.inl (xs_al 2 789))) (xlf 789 (.inr (.inl (67, 1, 8, [])))))) (xbt 797 (xbt 794 (xlf 792 (.inl (xs_il 5 794))) (xlf 794 (.inl (xs_ic_eq 799 797)))) (xbt 798 (xlf 797 (.inl (xs_c (0) 798))) (xbt 799 (xlf 798 (.inr (.inr 2))) (xlf 799 (.inl (xs_il 5 801))))))))) (xbt 831 (xbt 816 (xbt 807 (xbt 805 (xbt 804 (xlf 801 (.inl (xs_if_ne 823 804))) (xlf 804 (.inl (xs_al 3 805)))) (xbt 806 (xlf 805 (.inl (xs_c (0) 806))) (xlf 806 (.inl (xs_la 807))))) (xbt 812 (xbt 809 (xlf 807 (.inl (xs_il 6 809))) (xlf 809 (.inl (xs_if_eq 816 812)))) (xbt 813 (xlf 812 (.inl (xs_cl (1) 813))) (xlf 813 (.inl (xs_goto 817)))))) (xbt 822 (xbt 818 (xbt 817 (xlf 816 (.inl (xs_cl (0) 817))) (xlf 817 (.inl (xs_lcmp 818)))) (xbt 821 (xlf 818 (.inl (xs_if_eq 823 821))) (xlf 821 (.inl (xs_c (0) 822))))) (xbt 826 (xbt 823 (xlf 822 (.inr (.inr 2))) (xlf 823 (.inl (xs_goto 972)))) (xbt 827 (xlf 826 (.inl (xs_al 1 827))) (xbt 828 (xlf 827 (.inl (xs_al 3 828))) (xlf 828 (.inr (.inl (13, 2, 0, []))))))))) (xbt 848 (xbt 839 (xbt 834 (xbt 833 (xlf 831 (.inl (xs_is 7 5 833))) (xlf 833 (.inl (xs_al 2 834)))) (xbt 837 (xlf 834 (.inr (.inl (92, 1, 8, [])))) (xlf 837 (.inl (xs_is 7 6 839))))) (xbt 843 (xbt 840 (xlf 839 (.inl (xs_al 2 840))) (xlf 840 (.inr (.inl (67, 1, 8, []))))) (xbt 845 (xlf 843 (.inl (xs_il 5 845))) (xlf 845 (.inl (xs_ic_eq 850 848)))))) (xbt 855 (xbt 850 (xbt 849 (xlf 848 (.inl (xs_c (0) 849))) (xlf 849 (.inr (.inr 2)))) (xbt 852 (xlf 850 (.inl (xs_il 5 852))) (xlf 852 (.inl (xs_if_ne 874 855))))) (xbt 857 (xbt 856 (xlf 855 (.inl (xs_al 3 856))) (xlf 856 (.inl (xs_c (0) 857)))) (xbt 858 (xlf 857 (.inl (xs_la 858))) (xbt 860 (xlf 858 (.inl (xs_il 6 860))) (xlf 860 (.inl (xs_if_eq 867 863)))))))))) (xbt 922 (xbt 894 (xbt 877 (xbt 869 (xbt 867 (xbt 864 (xlf 863 (.inl (xs_cl (1) 864))) (xlf 864 (.inl (xs_goto 868)))) (xbt 868 (xlf 867 (.inl (xs_cl (0) 868))) (xlf 868 (.inl (xs_lcmp 869))))) (xbt 873 (xbt 872 (xlf 869 (.inl (xs_if_eq 874 872))) (xlf 872 (.inl (xs_c (0) 873)))) (xbt 874 (xlf 873 (.inr (.inr 2))) (xlf 874 (.inl (xs_goto 972)))))) (xbt 885 (xbt 881 (xbt 878 (xlf 877 (.inl (xs_al 1 878))) (xlf 878 (.inr (.inl (32, 1, 2, []))))) (xbt 882 (xlf 881 (.inl (xs_al 2 882))) (xlf 882 (.inr (.inl (93, 1, 8, [])))))) (xbt 889 (xbt 888 (xlf 885 (.inl (xs_ic_eq 972 888))) (xlf 888 (.inl (xs_c (0) 889)))) (xbt 890 (xlf 889 (.inr (.inr 2))) (xbt 891 (xlf 890 (.inl (xs_al 1 891))) (xlf 891 (.inr (.inl (33, 1, 2, []))))))))) (xbt 908 (xbt 902 (xbt 898 (xbt 895 (xlf 894 (.inl (xs_al 2 895))) (xlf 895 (.inr (.inl (94, 1, 8, []))))) (xbt 901 (xlf 898 (.inl (xs_ic_eq 972 901))) (xlf 901 (.inl (xs_c (0) 902))))) (xbt 904 (xbt 903 (xlf 902 (.inr (.inr 2))) (xlf 903 (.inl (xs_al 1 904)))) (xbt 907 (xlf 904 (.inr (.inl (34, 1, 2, [])))) (xlf 907 (.inl (xs_al 2 908)))))) (xbt 916 (xbt 914 (xbt 911 (xlf 908 (.inr (.inl (95, 1, 8, [])))) (xlf 911 (.inl (xs_ic_eq 972 914)))) (xbt 915 (xlf 914 (.inl (xs_c (0) 915))) (xlf 915 (.inr (.inr 2))))) (xbt 918 (xbt 917 (xlf 916 (.inl (xs_al 1 917))) (xlf 917 (.inl (xs_al 0 918)))) (xbt 920 (xlf 918 (.inl (xs_il 4 920))) (xbt 921 (xlf 920 (.inl (xs_c (1) 921))) (xlf 921 (.inl (xs_iadd 922))))))))) (xbt 951 (xbt 934 (xbt 929 (xbt 924 (xbt 923 (xlf 922 (.inl (xs_ia Ls xs 923))) (xlf 923 (.inl (xs_al 3 924)))) (xbt 927 (xlf 924 (.inr (.inl (14, 3, 0, [])))) (xlf 927 (.inl (xs_is 7 5 929))))) (xbt 931 (xbt 930 (xlf 929 (.inl (xs_al 2 930))) (xlf 930 (.inl (xs_al 0 931)))) (xbt 933 (xlf 931 (.inl (xs_il 4 933))) (xlf 933 (.inl (xs_c (1) 934)))))) (xbt 941 (xbt 936 (xbt 935 (xlf 934 (.inl (xs_iadd 935))) (xlf 935 (.inl (xs_ia Ls xs 936)))) (xbt 939 (xlf 936 (.inr (.inl (96, 2, 8, [])))) (xlf 939 (.inl (xs_is 7 6 941))))) (xbt 945 (xbt 942 (xlf 941 (.inl (xs_al 2 942))) (xlf 942 (.inr (.inl (67, 1, 8, []))))) (xbt 947 (xlf 945 (.inl (xs_il 5 947))) (xbt 950 (xlf 947 (.inl (xs_ic_eq 952 950))) (xlf 950 (.inl (xs_c (0) 951)))))))) (xbt 963 (xbt 958 (xbt 954 (xbt 952 (xlf 951 (.inr (.inr 2))) (xlf 952 (.inl (xs_il 5 954)))) (xbt 957 (xlf 954 (.inl (xs_if_ne 969 957))) (xlf 957 (.inl (xs_al 3 958))))) (xbt 960 (xbt 959 (xlf 958 (.inl (xs_c (0) 959))) (xlf 959 (.inl (xs_la 960)))) (xbt 962 (xlf 960 (.inl (xs_il 6 962))) (xlf 962 (.inl (xs_i2l 963)))))) (xbt 969 (xbt 967 (xbt 964 (xlf 963 (.inl (xs_lcmp 964))) (xlf 964 (.inl (xs_if_eq 969 967)))) (xbt 968 (xlf 967 (.inl (xs_c (0) 968))) (xlf 968 (.inr (.inr 2))))) (xbt 975 (xbt 972 (xlf 969 (.inl (xs_goto 972))) (xlf 972 (.inl (xs_inc 7 4 (4) 975)))) (xbt 978 (xlf 975 (.inl (xs_goto 43))) (xbt 979 (xlf 978 (.inl (xs_c (1) 979))) (xlf 979 (.inr (.inr 2))))))))))))
theorem ok_0 (Ls : Nat) (xs : Nat → Int32) : ∀ pc it, K_0 Ls xs pc = some it → xPI Ls xs md_0 pc it := by
  unfold K_0
  exact xbt_ok (xbt_ok (xbt_ok (xbt_ok (xbt_ok (xbt_ok (xbt_ok (xbt_ok (xbt_ok (xlf_ok (it_0_0 Ls xs)) (xlf_ok (it_0_3 Ls xs))) (xbt_ok (xlf_ok (it_0_4 Ls xs)) (xlf_ok (it_0_5 Ls xs)))) (xbt_ok (xbt_ok (xlf_ok (it_0_6 Ls xs)) (xlf_ok (it_0_9 Ls xs))) (xbt_ok (xlf_ok (it_0_10 Ls xs)) (xlf_ok (it_0_11 Ls xs))))) (xbt_ok (xbt_ok (xbt_ok (xlf_ok (it_0_14 Ls xs)) (xlf_ok (it_0_17 Ls xs))) (xbt_ok (xlf_ok (it_0_18 Ls xs)) (xlf_ok (it_0_21 Ls xs)))) (xbt_ok (xbt_ok (xlf_ok (it_0_22 Ls xs)) (xlf_ok (it_0_23 Ls xs))) (xbt_ok (xlf_ok (it_0_24 Ls xs)) (xbt_ok (xlf_ok (it_0_27 Ls xs)) (xlf_ok (it_0_28 Ls xs))))))) (xbt_ok (xbt_ok (xbt_ok (xbt_ok (xlf_ok (it_0_29 Ls xs)) (xlf_ok (it_0_32 Ls xs))) (xbt_ok (xlf_ok (it_0_35 Ls xs)) (xlf_ok (it_0_36 Ls xs)))) (xbt_ok (xbt_ok (xlf_ok (it_0_37 Ls xs)) (xlf_ok (it_0_39 Ls xs))) (xbt_ok (xlf_ok (it_0_40 Ls xs)) (xlf_ok (it_0_41 Ls xs))))) (xbt_ok (xbt_ok (xbt_ok (xlf_ok (it_0_43 Ls xs)) (xlf_ok (it_0_45 Ls xs))) (xbt_ok (xlf_ok (it_0_46 Ls xs)) (xlf_ok (it_0_47 Ls xs)))) (xbt_ok (xbt_ok (xlf_ok (it_0_48 Ls xs)) (xlf_ok (it_0_49 Ls xs))) (xbt_ok (xlf_ok (it_0_52 Ls xs)) (xbt_ok (xlf_ok (it_0_53 Ls xs)) (xlf_ok (it_0_55 Ls xs)))))))) (xbt_ok (xbt_ok (xbt_ok (xbt_ok (xbt_ok (xlf_ok (it_0_56 Ls xs)) (xlf_ok (it_0_58 Ls xs))) (xbt_ok (xlf_ok (it_0_59 Ls xs)) (xlf_ok (it_0_152 Ls xs)))) (xbt_ok (xbt_ok (xlf_ok (it_0_153 Ls xs)) (xlf_ok (it_0_154 Ls xs))) (xbt_ok (xlf_ok (it_0_156 Ls xs)) (xlf_ok (it_0_157 Ls xs))))) (xbt_ok (xbt_ok (xbt_ok (xlf_ok (it_0_158 Ls xs)) (xlf_ok (it_0_159 Ls xs))) (xbt_ok (xlf_ok (it_0_160 Ls xs)) (xlf_ok (it_0_163 Ls xs)))) (xbt_ok (xbt_ok (xlf_ok (it_0_165 Ls xs)) (xlf_ok (it_0_166 Ls xs))) (xbt_ok (xlf_ok (it_0_167 Ls xs)) (xbt_ok (xlf_ok (it_0_169 Ls xs)) (xlf_ok (it_0_170 Ls xs))))))) (xbt_ok (xbt_ok (xbt_ok (xbt_ok (xlf_ok (it_0_171 Ls xs)) (xlf_ok (it_0_172 Ls xs))) (xbt_ok (xlf_ok (it_0_175 Ls xs)) (xlf_ok (it_0_177 Ls xs)))) (xbt_ok (xbt_ok (xlf_ok (it_0_178 Ls xs)) (xlf_ok (it_0_181 Ls xs))) (xbt_ok (xlf_ok (it_0_183 Ls xs)) (xlf_ok (it_0_186 Ls xs))))) (xbt_ok (xbt_ok (xbt_ok (xlf_ok (it_0_187 Ls xs)) (xlf_ok (it_0_188 Ls xs))) (xbt_ok (xlf_ok (it_0_190 Ls xs)) (xlf_ok (it_0_193 Ls xs)))) (xbt_ok (xbt_ok (xlf_ok (it_0_194 Ls xs)) (xlf_ok (it_0_195 Ls xs))) (xbt_ok (xlf_ok (it_0_196 Ls xs)) (xbt_ok (xlf_ok (it_0_198 Ls xs)) (xlf_ok (it_0_199 Ls xs))))))))) (xbt_ok (xbt_ok (xbt_ok (xbt_ok (xbt_ok (xbt_ok (xlf_ok (it_0_200 Ls xs)) (xlf_ok (it_0_203 Ls xs))) (xbt_ok (xlf_ok (it_0_204 Ls xs)) (xlf_ok (it_0_205 Ls xs)))) (xbt_ok (xbt_ok (xlf_ok (it_0_208 Ls xs)) (xlf_ok (it_0_209 Ls xs))) (xbt_ok (xlf_ok (it_0_210 Ls xs)) (xlf_ok (it_0_212 Ls xs))))) (xbt_ok (xbt_ok (xbt_ok (xlf_ok (it_0_213 Ls xs)) (xlf_ok (it_0_214 Ls xs))) (xbt_ok (xlf_ok (it_0_215 Ls xs)) (xlf_ok (it_0_218 Ls xs)))) (xbt_ok (xbt_ok (xlf_ok (it_0_220 Ls xs)) (xlf_ok (it_0_221 Ls xs))) (xbt_ok (xlf_ok (it_0_222 Ls xs)) (xbt_ok (xlf_ok (it_0_224 Ls xs)) (xlf_ok (it_0_225 Ls xs))))))) (xbt_ok (xbt_ok (xbt_ok (xbt_ok (xlf_ok (it_0_226 Ls xs)) (xlf_ok (it_0_227 Ls xs))) (xbt_ok (xlf_ok (it_0_230 Ls xs)) (xlf_ok (it_0_231 Ls xs)))) (xbt_ok (xbt_ok (xlf_ok (it_0_234 Ls xs)) (xlf_ok (it_0_236 Ls xs))) (xbt_ok (xlf_ok (it_0_239 Ls xs)) (xlf_ok (it_0_240 Ls xs))))) (xbt_ok (xbt_ok (xbt_ok (xlf_ok (it_0_241 Ls xs)) (xlf_ok (it_0_244 Ls xs))) (xbt_ok (xlf_ok (it_0_245 Ls xs)) (xlf_ok (it_0_248 Ls xs)))) (xbt_ok (xbt_ok (xlf_ok (it_0_249 Ls xs)) (xlf_ok (it_0_252 Ls xs))) (xbt_ok (xlf_ok (it_0_255 Ls xs)) (xbt_ok (xlf_ok (it_0_256 Ls xs)) (xlf_ok (it_0_259 Ls xs)))))))) (xbt_ok (xbt_ok (xbt_ok (xbt_ok (xbt_ok (xlf_ok (it_0_260 Ls xs)) (xlf_ok (it_0_263 Ls xs))) (xbt_ok (xlf_ok (it_0_266 Ls xs)) (xlf_ok (it_0_267 Ls xs)))) (xbt_ok (xbt_ok (xlf_ok (it_0_268 Ls xs)) (xlf_ok (it_0_271 Ls xs))) (xbt_ok (xlf_ok (it_0_273 Ls xs)) (xlf_ok (it_0_274 Ls xs))))) (xbt_ok (xbt_ok (xbt_ok (xlf_ok (it_0_277 Ls xs)) (xlf_ok (it_0_279 Ls xs))) (xbt_ok (xlf_ok (it_0_280 Ls xs)) (xlf_ok (it_0_283 Ls xs)))) (xbt_ok (xbt_ok (xlf_ok (it_0_285 Ls xs)) (xlf_ok (it_0_288 Ls xs))) (xbt_ok (xlf_ok (it_0_289 Ls xs)) (xbt_ok (xlf_ok (it_0_290 Ls xs)) (xlf_ok (it_0_292 Ls xs))))))) (xbt_ok (xbt_ok (xbt_ok (xbt_ok (xlf_ok (it_0_295 Ls xs)) (xlf_ok (it_0_296 Ls xs))) (xbt_ok (xlf_ok (it_0_297 Ls xs)) (xlf_ok (it_0_298 Ls xs)))) (xbt_ok (xbt_ok (xlf_ok (it_0_300 Ls xs)) (xlf_ok (it_0_301 Ls xs))) (xbt_ok (xlf_ok (it_0_302 Ls xs)) (xlf_ok (it_0_305 Ls xs))))) (xbt_ok (xbt_ok (xbt_ok (xlf_ok (it_0_306 Ls xs)) (xlf_ok (it_0_307 Ls xs))) (xbt_ok (xlf_ok (it_0_310 Ls xs)) (xlf_ok (it_0_311 Ls xs)))) (xbt_ok (xbt_ok (xlf_ok (it_0_312 Ls xs)) (xlf_ok (it_0_314 Ls xs))) (xbt_ok (xlf_ok (it_0_315 Ls xs)) (xbt_ok (xlf_ok (it_0_316 Ls xs)) (xlf_ok (it_0_317 Ls xs)))))))))) (xbt_ok (xbt_ok (xbt_ok (xbt_ok (xbt_ok (xbt_ok (xbt_ok (xlf_ok (it_0_320 Ls xs)) (xlf_ok (it_0_321 Ls xs))) (xbt_ok (xlf_ok (it_0_322 Ls xs)) (xlf_ok (it_0_324 Ls xs)))) (xbt_ok (xbt_ok (xlf_ok (it_0_325 Ls xs)) (xlf_ok (it_0_326 Ls xs))) (xbt_ok (xlf_ok (it_0_327 Ls xs)) (xlf_ok (it_0_330 Ls xs))))) (xbt_ok (xbt_ok (xbt_ok (xlf_ok (it_0_333 Ls xs)) (xlf_ok (it_0_334 Ls xs))) (xbt_ok (xlf_ok (it_0_335 Ls xs)) (xlf_ok (it_0_336 Ls xs)))) (xbt_ok (xbt_ok (xlf_ok (it_0_339 Ls xs)) (xlf_ok (it_0_340 Ls xs))) (xbt_ok (xlf_ok (it_0_343 Ls xs)) (xbt_ok (xlf_ok (it_0_346 Ls xs)) (xlf_ok (it_0_347 Ls xs))))))) (xbt_ok (xbt_ok (xbt_ok (xbt_ok (xlf_ok (it_0_348 Ls xs)) (xlf_ok (it_0_349 Ls xs))) (xbt_ok (xlf_ok (it_0_350 Ls xs)) (xlf_ok (it_0_352 Ls xs)))) (xbt_ok (xbt_ok (xlf_ok (it_0_353 Ls xs)) (xlf_ok (it_0_354 Ls xs))) (xbt_ok (xlf_ok (it_0_355 Ls xs)) (xlf_ok (it_0_356 Ls xs))))) (xbt_ok (xbt_ok (xbt_ok (xlf_ok (it_0_359 Ls xs)) (xlf_ok (it_0_361 Ls xs))) (xbt_ok (xlf_ok (it_0_362 Ls xs)) (xlf_ok (it_0_363 Ls xs)))) (xbt_ok (xbt_ok (xlf_ok (it_0_365 Ls xs)) (xlf_ok (it_0_366 Ls xs))) (xbt_ok (xlf_ok (it_0_367 Ls xs)) (xbt_ok (xlf_ok (it_0_368 Ls xs)) (xlf_ok (it_0_371 Ls xs)))))))) (xbt_ok (xbt_ok (xbt_ok (xbt_ok (xbt_ok (xlf_ok (it_0_373 Ls xs)) (xlf_ok (it_0_374 Ls xs))) (xbt_ok (xlf_ok (it_0_377 Ls xs)) (xlf_ok (it_0_379 Ls xs)))) (xbt_ok (xbt_ok (xlf_ok (it_0_382 Ls xs)) (xlf_ok (it_0_383 Ls xs))) (xbt_ok (xlf_ok (it_0_384 Ls xs)) (xlf_ok (it_0_386 Ls xs))))) (xbt_ok (xbt_ok (xbt_ok (xlf_ok (it_0_389 Ls xs)) (xlf_ok (it_0_390 Ls xs))) (xbt_ok (xlf_ok (it_0_391 Ls xs)) (xlf_ok (it_0_392 Ls xs)))) (xbt_ok (xbt_ok (xlf_ok (it_0_394 Ls xs)) (xlf_ok (it_0_395 Ls xs))) (xbt_ok (xlf_ok (it_0_396 Ls xs)) (xbt_ok (xlf_ok (it_0_399 Ls xs)) (xlf_ok (it_0_400 Ls xs))))))) (xbt_ok (xbt_ok (xbt_ok (xbt_ok (xlf_ok (it_0_401 Ls xs)) (xlf_ok (it_0_404 Ls xs))) (xbt_ok (xlf_ok (it_0_405 Ls xs)) (xlf_ok (it_0_406 Ls xs)))) (xbt_ok (xbt_ok (xlf_ok (it_0_408 Ls xs)) (xlf_ok (it_0_409 Ls xs))) (xbt_ok (xlf_ok (it_0_410 Ls xs)) (xlf_ok (it_0_411 Ls xs))))) (xbt_ok (xbt_ok (xbt_ok (xlf_ok (it_0_412 Ls xs)) (xlf_ok (it_0_414 Ls xs))) (xbt_ok (xlf_ok (it_0_415 Ls xs)) (xlf_ok (it_0_416 Ls xs)))) (xbt_ok (xbt_ok (xlf_ok (it_0_417 Ls xs)) (xlf_ok (it_0_418 Ls xs))) (xbt_ok (xlf_ok (it_0_420 Ls xs)) (xbt_ok (xlf_ok (it_0_421 Ls xs)) (xlf_ok (it_0_422 Ls xs))))))))) (xbt_ok (xbt_ok (xbt_ok (xbt_ok (xbt_ok (xbt_ok (xlf_ok (it_0_423 Ls xs)) (xlf_ok (it_0_424 Ls xs))) (xbt_ok (xlf_ok (it_0_427 Ls xs)) (xlf_ok (it_0_429 Ls xs)))) (xbt_ok (xbt_ok (xlf_ok (it_0_430 Ls xs)) (xlf_ok (it_0_431 Ls xs))) (xbt_ok (xlf_ok (it_0_433 Ls xs)) (xlf_ok (it_0_434 Ls xs))))) (xbt_ok (xbt_ok (xbt_ok (xlf_ok (it_0_435 Ls xs)) (xlf_ok (it_0_436 Ls xs))) (xbt_ok (xlf_ok (it_0_437 Ls xs)) (xlf_ok (it_0_439 Ls xs)))) (xbt_ok (xbt_ok (xlf_ok (it_0_440 Ls xs)) (xlf_ok (it_0_441 Ls xs))) (xbt_ok (xlf_ok (it_0_442 Ls xs)) (xbt_ok (xlf_ok (it_0_443 Ls xs)) (xlf_ok (it_0_445 Ls xs))))))) (xbt_ok (xbt_ok (xbt_ok (xbt_ok (xlf_ok (it_0_446 Ls xs)) (xlf_ok (it_0_447 Ls xs))) (xbt_ok (xlf_ok (it_0_448 Ls xs)) (xlf_ok (it_0_451 Ls xs)))) (xbt_ok (xbt_ok (xlf_ok (it_0_453 Ls xs)) (xlf_ok (it_0_454 Ls xs))) (xbt_ok (xlf_ok (it_0_457 Ls xs)) (xlf_ok (it_0_459 Ls xs))))) (xbt_ok (xbt_ok (xbt_ok (xlf_ok (it_0_462 Ls xs)) (xlf_ok (it_0_463 Ls xs))) (xbt_ok (xlf_ok (it_0_464 Ls xs)) (xlf_ok (it_0_466 Ls xs)))) (xbt_ok (xbt_ok (xlf_ok (it_0_469 Ls xs)) (xlf_ok (it_0_470 Ls xs))) (xbt_ok (xlf_ok (it_0_471 Ls xs)) (xbt_ok (xlf_ok (it_0_472 Ls xs)) (xlf_ok (it_0_474 Ls xs)))))))) (xbt_ok (xbt_ok (xbt_ok (xbt_ok (xbt_ok (xlf_ok (it_0_475 Ls xs)) (xlf_ok (it_0_476 Ls xs))) (xbt_ok (xlf_ok (it_0_479 Ls xs)) (xlf_ok (it_0_480 Ls xs)))) (xbt_ok (xbt_ok (xlf_ok (it_0_481 Ls xs)) (xlf_ok (it_0_484 Ls xs))) (xbt_ok (xlf_ok (it_0_485 Ls xs)) (xlf_ok (it_0_486 Ls xs))))) (xbt_ok (xbt_ok (xbt_ok (xlf_ok (it_0_488 Ls xs)) (xlf_ok (it_0_489 Ls xs))) (xbt_ok (xlf_ok (it_0_490 Ls xs)) (xlf_ok (it_0_491 Ls xs)))) (xbt_ok (xbt_ok (xlf_ok (it_0_492 Ls xs)) (xlf_ok (it_0_494 Ls xs))) (xbt_ok (xlf_ok (it_0_495 Ls xs)) (xbt_ok (xlf_ok (it_0_496 Ls xs)) (xlf_ok (it_0_497 Ls xs))))))) (xbt_ok (xbt_ok (xbt_ok (xbt_ok (xlf_ok (it_0_498 Ls xs)) (xlf_ok (it_0_501 Ls xs))) (xbt_ok (xlf_ok (it_0_503 Ls xs)) (xlf_ok (it_0_504 Ls xs)))) (xbt_ok (xbt_ok (xlf_ok (it_0_505 Ls xs)) (xlf_ok (it_0_507 Ls xs))) (xbt_ok (xlf_ok (it_0_508 Ls xs)) (xlf_ok (it_0_509 Ls xs))))) (xbt_ok (xbt_ok (xbt_ok (xlf_ok (it_0_510 Ls xs)) (xlf_ok (it_0_511 Ls xs))) (xbt_ok (xlf_ok (it_0_513 Ls xs)) (xlf_ok (it_0_514 Ls xs)))) (xbt_ok (xbt_ok (xlf_ok (it_0_515 Ls xs)) (xlf_ok (it_0_516 Ls xs))) (xbt_ok (xlf_ok (it_0_519 Ls xs)) (xbt_ok (xlf_ok (it_0_521 Ls xs)) (xlf_ok (it_0_522 Ls xs))))))))))) (xbt_ok (xbt_ok (xbt_ok (xbt_ok (xbt_ok (xbt_ok (xbt_ok (xbt_ok (xlf_ok (it_0_525 Ls xs)) (xlf_ok (it_0_527 Ls xs))) (xbt_ok (xlf_ok (it_0_530 Ls xs)) (xlf_ok (it_0_531 Ls xs)))) (xbt_ok (xbt_ok (xlf_ok (it_0_532 Ls xs)) (xlf_ok (it_0_534 Ls xs))) (xbt_ok (xlf_ok (it_0_537 Ls xs)) (xlf_ok (it_0_538 Ls xs))))) (xbt_ok (xbt_ok (xbt_ok (xlf_ok (it_0_539 Ls xs)) (xlf_ok (it_0_540 Ls xs))) (xbt_ok (xlf_ok (it_0_542 Ls xs)) (xlf_ok (it_0_543 Ls xs)))) (xbt_ok (xbt_ok (xlf_ok (it_0_544 Ls xs)) (xlf_ok (it_0_547 Ls xs))) (xbt_ok (xlf_ok (it_0_548 Ls xs)) (xbt_ok (xlf_ok (it_0_549 Ls xs)) (xlf_ok (it_0_552 Ls xs))))))) (xbt_ok (xbt_ok (xbt_ok (xbt_ok (xlf_ok (it_0_553 Ls xs)) (xlf_ok (it_0_554 Ls xs))) (xbt_ok (xlf_ok (it_0_556 Ls xs)) (xlf_ok (it_0_557 Ls xs)))) (xbt_ok (xbt_ok (xlf_ok (it_0_558 Ls xs)) (xlf_ok (it_0_559 Ls xs))) (xbt_ok (xlf_ok (it_0_560 Ls xs)) (xlf_ok (it_0_562 Ls xs))))) (xbt_ok (xbt_ok (xbt_ok (xlf_ok (it_0_563 Ls xs)) (xlf_ok (it_0_564 Ls xs))) (xbt_ok (xlf_ok (it_0_565 Ls xs)) (xlf_ok (it_0_566 Ls xs)))) (xbt_ok (xbt_ok (xlf_ok (it_0_569 Ls xs)) (xlf_ok (it_0_571 Ls xs))) (xbt_ok (xlf_ok (it_0_572 Ls xs)) (xbt_ok (xlf_ok (it_0_573 Ls xs)) (xlf_ok (it_0_575 Ls xs)))))))) (xbt_ok (xbt_ok (xbt_ok (xbt_ok (xbt_ok (xlf_ok (it_0_576 Ls xs)) (xlf_ok (it_0_577 Ls xs))) (xbt_ok (xlf_ok (it_0_578 Ls xs)) (xlf_ok (it_0_579 Ls xs)))) (xbt_ok (xbt_ok (xlf_ok (it_0_581 Ls xs)) (xlf_ok (it_0_582 Ls xs))) (xbt_ok (xlf_ok (it_0_583 Ls xs)) (xlf_ok (it_0_584 Ls xs))))) (xbt_ok (xbt_ok (xbt_ok (xlf_ok (it_0_587 Ls xs)) (xlf_ok (it_0_589 Ls xs))) (xbt_ok (xlf_ok (it_0_590 Ls xs)) (xlf_ok (it_0_593 Ls xs)))) (xbt_ok (xbt_ok (xlf_ok (it_0_595 Ls xs)) (xlf_ok (it_0_598 Ls xs))) (xbt_ok (xlf_ok (it_0_599 Ls xs)) (xbt_ok (xlf_ok (it_0_600 Ls xs)) (xlf_ok (it_0_602 Ls xs))))))) (xbt_ok (xbt_ok (xbt_ok (xbt_ok (xlf_ok (it_0_605 Ls xs)) (xlf_ok (it_0_606 Ls xs))) (xbt_ok (xlf_ok (it_0_607 Ls xs)) (xlf_ok (it_0_608 Ls xs)))) (xbt_ok (xbt_ok (xlf_ok (it_0_610 Ls xs)) (xlf_ok (it_0_611 Ls xs))) (xbt_ok (xlf_ok (it_0_612 Ls xs)) (xlf_ok (it_0_615 Ls xs))))) (xbt_ok (xbt_ok (xbt_ok (xlf_ok (it_0_616 Ls xs)) (xlf_ok (it_0_617 Ls xs))) (xbt_ok (xlf_ok (it_0_620 Ls xs)) (xlf_ok (it_0_621 Ls xs)))) (xbt_ok (xbt_ok (xlf_ok (it_0_622 Ls xs)) (xlf_ok (it_0_624 Ls xs))) (xbt_ok (xlf_ok (it_0_625 Ls xs)) (xbt_ok (xlf_ok (it_0_626 Ls xs)) (xlf_ok (it_0_627 Ls xs))))))))) (xbt_ok (xbt_ok (xbt_ok (xbt_ok (xbt_ok (xbt_ok (xlf_ok (it_0_628 Ls xs)) (xlf_ok (it_0_631 Ls xs))) (xbt_ok (xlf_ok (it_0_633 Ls xs)) (xlf_ok (it_0_634 Ls xs)))) (xbt_ok (xbt_ok (xlf_ok (it_0_635 Ls xs)) (xlf_ok (it_0_637 Ls xs))) (xbt_ok (xlf_ok (it_0_638 Ls xs)) (xlf_ok (it_0_639 Ls xs))))) (xbt_ok (xbt_ok (xbt_ok (xlf_ok (it_0_640 Ls xs)) (xlf_ok (it_0_643 Ls xs))) (xbt_ok (xlf_ok (it_0_645 Ls xs)) (xlf_ok (it_0_646 Ls xs)))) (xbt_ok (xbt_ok (xlf_ok (it_0_649 Ls xs)) (xlf_ok (it_0_651 Ls xs))) (xbt_ok (xlf_ok (it_0_654 Ls xs)) (xbt_ok (xlf_ok (it_0_655 Ls xs)) (xlf_ok (it_0_656 Ls xs))))))) (xbt_ok (xbt_ok (xbt_ok (xbt_ok (xlf_ok (it_0_658 Ls xs)) (xlf_ok (it_0_661 Ls xs))) (xbt_ok (xlf_ok (it_0_662 Ls xs)) (xlf_ok (it_0_663 Ls xs)))) (xbt_ok (xbt_ok (xlf_ok (it_0_664 Ls xs)) (xlf_ok (it_0_666 Ls xs))) (xbt_ok (xlf_ok (it_0_669 Ls xs)) (xlf_ok (it_0_670 Ls xs))))) (xbt_ok (xbt_ok (xbt_ok (xlf_ok (it_0_673 Ls xs)) (xlf_ok (it_0_674 Ls xs))) (xbt_ok (xlf_ok (it_0_675 Ls xs)) (xlf_ok (it_0_678 Ls xs)))) (xbt_ok (xbt_ok (xlf_ok (it_0_679 Ls xs)) (xlf_ok (it_0_680 Ls xs))) (xbt_ok (xlf_ok (it_0_683 Ls xs)) (xbt_ok (xlf_ok (it_0_684 Ls xs)) (xlf_ok (it_0_685 Ls xs)))))))) (xbt_ok (xbt_ok (xbt_ok (xbt_ok (xbt_ok (xlf_ok (it_0_687 Ls xs)) (xlf_ok (it_0_688 Ls xs))) (xbt_ok (xlf_ok (it_0_689 Ls xs)) (xlf_ok (it_0_690 Ls xs)))) (xbt_ok (xbt_ok (xlf_ok (it_0_691 Ls xs)) (xlf_ok (it_0_694 Ls xs))) (xbt_ok (xlf_ok (it_0_696 Ls xs)) (xlf_ok (it_0_697 Ls xs))))) (xbt_ok (xbt_ok (xbt_ok (xlf_ok (it_0_698 Ls xs)) (xlf_ok (it_0_700 Ls xs))) (xbt_ok (xlf_ok (it_0_701 Ls xs)) (xlf_ok (it_0_702 Ls xs)))) (xbt_ok (xbt_ok (xlf_ok (it_0_703 Ls xs)) (xlf_ok (it_0_706 Ls xs))) (xbt_ok (xlf_ok (it_0_708 Ls xs)) (xbt_ok (xlf_ok (it_0_709 Ls xs)) (xlf_ok (it_0_712 Ls xs))))))) (xbt_ok (xbt_ok (xbt_ok (xbt_ok (xlf_ok (it_0_714 Ls xs)) (xlf_ok (it_0_717 Ls xs))) (xbt_ok (xlf_ok (it_0_718 Ls xs)) (xlf_ok (it_0_719 Ls xs)))) (xbt_ok (xbt_ok (xlf_ok (it_0_721 Ls xs)) (xlf_ok (it_0_724 Ls xs))) (xbt_ok (xlf_ok (it_0_725 Ls xs)) (xlf_ok (it_0_726 Ls xs))))) (xbt_ok (xbt_ok (xbt_ok (xlf_ok (it_0_727 Ls xs)) (xlf_ok (it_0_729 Ls xs))) (xbt_ok (xlf_ok (it_0_730 Ls xs)) (xlf_ok (it_0_731 Ls xs)))) (xbt_ok (xbt_ok (xlf_ok (it_0_734 Ls xs)) (xlf_ok (it_0_735 Ls xs))) (xbt_ok (xlf_ok (it_0_736 Ls xs)) (xbt_ok (xlf_ok (it_0_739 Ls xs)) (xlf_ok (it_0_740 Ls xs)))))))))) (xbt_ok (xbt_ok (xbt_ok (xbt_ok (xbt_ok (xbt_ok (xbt_ok (xlf_ok (it_0_743 Ls xs)) (xlf_ok (it_0_745 Ls xs))) (xbt_ok (xlf_ok (it_0_746 Ls xs)) (xlf_ok (it_0_749 Ls xs)))) (xbt_ok (xbt_ok (xlf_ok (it_0_750 Ls xs)) (xlf_ok (it_0_753 Ls xs))) (xbt_ok (xlf_ok (it_0_755 Ls xs)) (xlf_ok (it_0_758 Ls xs))))) (xbt_ok (xbt_ok (xbt_ok (xlf_ok (it_0_759 Ls xs)) (xlf_ok (it_0_760 Ls xs))) (xbt_ok (xlf_ok (it_0_763 Ls xs)) (xlf_ok (it_0_764 Ls xs)))) (xbt_ok (xbt_ok (xlf_ok (it_0_765 Ls xs)) (xlf_ok (it_0_767 Ls xs))) (xbt_ok (xlf_ok (it_0_768 Ls xs)) (xbt_ok (xlf_ok (it_0_769 Ls xs)) (xlf_ok (it_0_770 Ls xs))))))) (xbt_ok (xbt_ok (xbt_ok (xbt_ok (xlf_ok (it_0_771 Ls xs)) (xlf_ok (it_0_774 Ls xs))) (xbt_ok (xlf_ok (it_0_776 Ls xs)) (xlf_ok (it_0_777 Ls xs)))) (xbt_ok (xbt_ok (xlf_ok (it_0_778 Ls xs)) (xlf_ok (it_0_780 Ls xs))) (xbt_ok (xlf_ok (it_0_781 Ls xs)) (xlf_ok (it_0_782 Ls xs))))) (xbt_ok (xbt_ok (xbt_ok (xlf_ok (it_0_783 Ls xs)) (xlf_ok (it_0_786 Ls xs))) (xbt_ok (xlf_ok (it_0_788 Ls xs)) (xlf_ok (it_0_789 Ls xs)))) (xbt_ok (xbt_ok (xlf_ok (it_0_792 Ls xs)) (xlf_ok (it_0_794 Ls xs))) (xbt_ok (xlf_ok (it_0_797 Ls xs)) (xbt_ok (xlf_ok (it_0_798 Ls xs)) (xlf_ok (it_0_799 Ls xs)))))))) (xbt_ok (xbt_ok (xbt_ok (xbt_ok (xbt_ok (xlf_ok (it_0_801 Ls xs)) (xlf_ok (it_0_804 Ls xs))) (xbt_ok (xlf_ok (it_0_805 Ls xs)) (xlf_ok (it_0_806 Ls xs)))) (xbt_ok (xbt_ok (xlf_ok (it_0_807 Ls xs)) (xlf_ok (it_0_809 Ls xs))) (xbt_ok (xlf_ok (it_0_812 Ls xs)) (xlf_ok (it_0_813 Ls xs))))) (xbt_ok (xbt_ok (xbt_ok (xlf_ok (it_0_816 Ls xs)) (xlf_ok (it_0_817 Ls xs))) (xbt_ok (xlf_ok (it_0_818 Ls xs)) (xlf_ok (it_0_821 Ls xs)))) (xbt_ok (xbt_ok (xlf_ok (it_0_822 Ls xs)) (xlf_ok (it_0_823 Ls xs))) (xbt_ok (xlf_ok (it_0_826 Ls xs)) (xbt_ok (xlf_ok (it_0_827 Ls xs)) (xlf_ok (it_0_828 Ls xs))))))) (xbt_ok (xbt_ok (xbt_ok (xbt_ok (xlf_ok (it_0_831 Ls xs)) (xlf_ok (it_0_833 Ls xs))) (xbt_ok (xlf_ok (it_0_834 Ls xs)) (xlf_ok (it_0_837 Ls xs)))) (xbt_ok (xbt_ok (xlf_ok (it_0_839 Ls xs)) (xlf_ok (it_0_840 Ls xs))) (xbt_ok (xlf_ok (it_0_843 Ls xs)) (xlf_ok (it_0_845 Ls xs))))) (xbt_ok (xbt_ok (xbt_ok (xlf_ok (it_0_848 Ls xs)) (xlf_ok (it_0_849 Ls xs))) (xbt_ok (xlf_ok (it_0_850 Ls xs)) (xlf_ok (it_0_852 Ls xs)))) (xbt_ok (xbt_ok (xlf_ok (it_0_855 Ls xs)) (xlf_ok (it_0_856 Ls xs))) (xbt_ok (xlf_ok (it_0_857 Ls xs)) (xbt_ok (xlf_ok (it_0_858 Ls xs)) (xlf_ok (it_0_860 Ls xs))))))))) (xbt_ok (xbt_ok (xbt_ok (xbt_ok (xbt_ok (xbt_ok (xlf_ok (it_0_863 Ls xs)) (xlf_ok (it_0_864 Ls xs))) (xbt_ok (xlf_ok (it_0_867 Ls xs)) (xlf_ok (it_0_868 Ls xs)))) (xbt_ok (xbt_ok (xlf_ok (it_0_869 Ls xs)) (xlf_ok (it_0_872 Ls xs))) (xbt_ok (xlf_ok (it_0_873 Ls xs)) (xlf_ok (it_0_874 Ls xs))))) (xbt_ok (xbt_ok (xbt_ok (xlf_ok (it_0_877 Ls xs)) (xlf_ok (it_0_878 Ls xs))) (xbt_ok (xlf_ok (it_0_881 Ls xs)) (xlf_ok (it_0_882 Ls xs)))) (xbt_ok (xbt_ok (xlf_ok (it_0_885 Ls xs)) (xlf_ok (it_0_888 Ls xs))) (xbt_ok (xlf_ok (it_0_889 Ls xs)) (xbt_ok (xlf_ok (it_0_890 Ls xs)) (xlf_ok (it_0_891 Ls xs))))))) (xbt_ok (xbt_ok (xbt_ok (xbt_ok (xlf_ok (it_0_894 Ls xs)) (xlf_ok (it_0_895 Ls xs))) (xbt_ok (xlf_ok (it_0_898 Ls xs)) (xlf_ok (it_0_901 Ls xs)))) (xbt_ok (xbt_ok (xlf_ok (it_0_902 Ls xs)) (xlf_ok (it_0_903 Ls xs))) (xbt_ok (xlf_ok (it_0_904 Ls xs)) (xlf_ok (it_0_907 Ls xs))))) (xbt_ok (xbt_ok (xbt_ok (xlf_ok (it_0_908 Ls xs)) (xlf_ok (it_0_911 Ls xs))) (xbt_ok (xlf_ok (it_0_914 Ls xs)) (xlf_ok (it_0_915 Ls xs)))) (xbt_ok (xbt_ok (xlf_ok (it_0_916 Ls xs)) (xlf_ok (it_0_917 Ls xs))) (xbt_ok (xlf_ok (it_0_918 Ls xs)) (xbt_ok (xlf_ok (it_0_920 Ls xs)) (xlf_ok (it_0_921 Ls xs)))))))) (xbt_ok (xbt_ok (xbt_ok (xbt_ok (xbt_ok (xlf_ok (it_0_922 Ls xs)) (xlf_ok (it_0_923 Ls xs))) (xbt_ok (xlf_ok (it_0_924 Ls xs)) (xlf_ok (it_0_927 Ls xs)))) (xbt_ok (xbt_ok (xlf_ok (it_0_929 Ls xs)) (xlf_ok (it_0_930 Ls xs))) (xbt_ok (xlf_ok (it_0_931 Ls xs)) (xlf_ok (it_0_933 Ls xs))))) (xbt_ok (xbt_ok (xbt_ok (xlf_ok (it_0_934 Ls xs)) (xlf_ok (it_0_935 Ls xs))) (xbt_ok (xlf_ok (it_0_936 Ls xs)) (xlf_ok (it_0_939 Ls xs)))) (xbt_ok (xbt_ok (xlf_ok (it_0_941 Ls xs)) (xlf_ok (it_0_942 Ls xs))) (xbt_ok (xlf_ok (it_0_945 Ls xs)) (xbt_ok (xlf_ok (it_0_947 Ls xs)) (xlf_ok (it_0_950 Ls xs))))))) (xbt_ok (xbt_ok (xbt_ok (xbt_ok (xlf_ok (it_0_951 Ls xs)) (xlf_ok (it_0_952 Ls xs))) (xbt_ok (xlf_ok (it_0_954 Ls xs)) (xlf_ok (it_0_957 Ls xs)))) (xbt_ok (xbt_ok (xlf_ok (it_0_958 Ls xs)) (xlf_ok (it_0_959 Ls xs))) (xbt_ok (xlf_ok (it_0_960 Ls xs)) (xlf_ok (it_0_962 Ls xs))))) (xbt_ok (xbt_ok (xbt_ok (xlf_ok (it_0_963 Ls xs)) (xlf_ok (it_0_964 Ls xs))) (xbt_ok (xlf_ok (it_0_967 Ls xs)) (xlf_ok (it_0_968 Ls xs)))) (xbt_ok (xbt_ok (xlf_ok (it_0_969 Ls xs)) (xlf_ok (it_0_972 Ls xs))) (xbt_ok (xlf_ok (it_0_975 Ls xs)) (xbt_ok (xlf_ok (it_0_978 Ls xs)) (xlf_ok (it_0_979 Ls xs)))))))))))
