theorem dL_law_0 : decode cL_law 0 = .ok (.new 8, 3) := by decide +kernel
theorem dL_law_3 : decode cL_law 3 = .ok (.dup, 1) := by decide +kernel
theorem dL_law_4 : decode cL_law 4 = .ok (.invokespecial 15, 3) := by decide +kernel
theorem dL_law_7 : decode cL_law 7 = .ok (.astore_n 1, 1) := by decide +kernel
theorem dL_law_8 : decode cL_law 8 = .ok (.new 16, 3) := by decide +kernel
theorem dL_law_11 : decode cL_law 11 = .ok (.dup, 1) := by decide +kernel
theorem dL_law_12 : decode cL_law 12 = .ok (.invokespecial 18, 3) := by decide +kernel
theorem dL_law_15 : decode cL_law 15 = .ok (.astore_n 2, 1) := by decide +kernel
theorem dL_law_16 : decode cL_law 16 = .ok (.iconst 1, 1) := by decide +kernel
theorem dL_law_17 : decode cL_law 17 = .ok (.newarray .long, 2) := by decide +kernel
theorem dL_law_19 : decode cL_law 19 = .ok (.astore_n 3, 1) := by decide +kernel
theorem dL_law_20 : decode cL_law 20 = .ok (.iconst 0, 1) := by decide +kernel
theorem dL_law_21 : decode cL_law 21 = .ok (.istore 4, 2) := by decide +kernel
theorem dL_law_23 : decode cL_law 23 = .ok (.iload 4, 2) := by decide +kernel
theorem dL_law_25 : decode cL_law 25 = .ok (.aload_n 0, 1) := by decide +kernel
theorem dL_law_26 : decode cL_law 26 = .ok (.arraylength, 1) := by decide +kernel
theorem dL_law_27 : decode cL_law 27 = .ok (.bipush 6, 2) := by decide +kernel
theorem dL_law_29 : decode cL_law 29 = .ok (.isub, 1) := by decide +kernel
theorem dL_law_30 : decode cL_law 30 = .ok (.if_icmp .gt 1585, 3) := by decide +kernel
theorem dL_law_33 : decode cL_law 33 = .ok (.aload_n 0, 1) := by decide +kernel
theorem dL_law_34 : decode cL_law 34 = .ok (.iload 4, 2) := by decide +kernel
theorem dL_law_36 : decode cL_law 36 = .ok (.iaload, 1) := by decide +kernel
theorem dL_law_37 : decode cL_law 37 = .ok (.bipush 63, 2) := by decide +kernel
theorem dL_law_39 : decode cL_law 39 = .ok (.iand, 1) := by decide +kernel
theorem dL_law_40 : decode cL_law 40 = .ok (.tableswitch 1569 0 37 #[168, 241, 266, 291, 316, 372, 397, 434, 483, 520, 557, 594, 619, 668, 729, 778, 827, 864, 889, 914, 927, 964, 1001, 1050, 1099, 1148, 1185, 1222, 1283, 1308, 1357, 1406, 1443, 1468, 1481, 1518, 1531, 1544], 168) := by decide +kernel
theorem dL_law_208 : decode cL_law 208 = .ok (.aload_n 1, 1) := by decide +kernel
theorem dL_law_209 : decode cL_law 209 = .ok (.aload_n 0, 1) := by decide +kernel
theorem dL_law_210 : decode cL_law 210 = .ok (.iload 4, 2) := by decide +kernel
theorem dL_law_212 : decode cL_law 212 = .ok (.iconst 1, 1) := by decide +kernel
theorem dL_law_213 : decode cL_law 213 = .ok (.iadd, 1) := by decide +kernel
theorem dL_law_214 : decode cL_law 214 = .ok (.iaload, 1) := by decide +kernel
theorem dL_law_215 : decode cL_law 215 = .ok (.aload_n 0, 1) := by decide +kernel
theorem dL_law_216 : decode cL_law 216 = .ok (.iload 4, 2) := by decide +kernel
theorem dL_law_218 : decode cL_law 218 = .ok (.iconst 2, 1) := by decide +kernel
theorem dL_law_219 : decode cL_law 219 = .ok (.iadd, 1) := by decide +kernel
theorem dL_law_220 : decode cL_law 220 = .ok (.iaload, 1) := by decide +kernel
theorem dL_law_221 : decode cL_law 221 = .ok (.aload_n 0, 1) := by decide +kernel
theorem dL_law_222 : decode cL_law 222 = .ok (.iload 4, 2) := by decide +kernel
theorem dL_law_224 : decode cL_law 224 = .ok (.iconst 3, 1) := by decide +kernel
theorem dL_law_225 : decode cL_law 225 = .ok (.iadd, 1) := by decide +kernel
theorem dL_law_226 : decode cL_law 226 = .ok (.iaload, 1) := by decide +kernel
theorem dL_law_227 : decode cL_law 227 = .ok (.aload_n 0, 1) := by decide +kernel
theorem dL_law_228 : decode cL_law 228 = .ok (.iload 4, 2) := by decide +kernel
theorem dL_law_230 : decode cL_law 230 = .ok (.iconst 4, 1) := by decide +kernel
theorem dL_law_231 : decode cL_law 231 = .ok (.iadd, 1) := by decide +kernel
theorem dL_law_232 : decode cL_law 232 = .ok (.iaload, 1) := by decide +kernel
theorem dL_law_233 : decode cL_law 233 = .ok (.aload_n 0, 1) := by decide +kernel
theorem dL_law_234 : decode cL_law 234 = .ok (.iload 4, 2) := by decide +kernel
theorem dL_law_236 : decode cL_law 236 = .ok (.iconst 5, 1) := by decide +kernel
theorem dL_law_237 : decode cL_law 237 = .ok (.iadd, 1) := by decide +kernel
theorem dL_law_238 : decode cL_law 238 = .ok (.iaload, 1) := by decide +kernel
theorem dL_law_239 : decode cL_law 239 = .ok (.invokevirtual 19, 3) := by decide +kernel
theorem dL_law_242 : decode cL_law 242 = .ok (.pop, 1) := by decide +kernel
theorem dL_law_243 : decode cL_law 243 = .ok (.aload_n 2, 1) := by decide +kernel
theorem dL_law_244 : decode cL_law 244 = .ok (.aload_n 0, 1) := by decide +kernel
theorem dL_law_245 : decode cL_law 245 = .ok (.iload 4, 2) := by decide +kernel
theorem dL_law_247 : decode cL_law 247 = .ok (.iconst 1, 1) := by decide +kernel
theorem dL_law_248 : decode cL_law 248 = .ok (.iadd, 1) := by decide +kernel
theorem dL_law_249 : decode cL_law 249 = .ok (.iaload, 1) := by decide +kernel
theorem dL_law_250 : decode cL_law 250 = .ok (.aload_n 0, 1) := by decide +kernel
theorem dL_law_251 : decode cL_law 251 = .ok (.iload 4, 2) := by decide +kernel
theorem dL_law_253 : decode cL_law 253 = .ok (.iconst 2, 1) := by decide +kernel
theorem dL_law_254 : decode cL_law 254 = .ok (.iadd, 1) := by decide +kernel
theorem dL_law_255 : decode cL_law 255 = .ok (.iaload, 1) := by decide +kernel
theorem dL_law_256 : decode cL_law 256 = .ok (.aload_n 0, 1) := by decide +kernel
theorem dL_law_257 : decode cL_law 257 = .ok (.iload 4, 2) := by decide +kernel
theorem dL_law_259 : decode cL_law 259 = .ok (.iconst 3, 1) := by decide +kernel
theorem dL_law_260 : decode cL_law 260 = .ok (.iadd, 1) := by decide +kernel
theorem dL_law_261 : decode cL_law 261 = .ok (.iaload, 1) := by decide +kernel
theorem dL_law_262 : decode cL_law 262 = .ok (.aload_n 0, 1) := by decide +kernel
theorem dL_law_263 : decode cL_law 263 = .ok (.iload 4, 2) := by decide +kernel
theorem dL_law_265 : decode cL_law 265 = .ok (.iconst 4, 1) := by decide +kernel
theorem dL_law_266 : decode cL_law 266 = .ok (.iadd, 1) := by decide +kernel
theorem dL_law_267 : decode cL_law 267 = .ok (.iaload, 1) := by decide +kernel
theorem dL_law_268 : decode cL_law 268 = .ok (.aload_n 0, 1) := by decide +kernel
theorem dL_law_269 : decode cL_law 269 = .ok (.iload 4, 2) := by decide +kernel
theorem dL_law_271 : decode cL_law 271 = .ok (.iconst 5, 1) := by decide +kernel
theorem dL_law_272 : decode cL_law 272 = .ok (.iadd, 1) := by decide +kernel
theorem dL_law_273 : decode cL_law 273 = .ok (.iaload, 1) := by decide +kernel
theorem dL_law_274 : decode cL_law 274 = .ok (.invokevirtual 23, 3) := by decide +kernel
theorem dL_law_277 : decode cL_law 277 = .ok (.pop, 1) := by decide +kernel
theorem dL_law_278 : decode cL_law 278 = .ok (.goto 1331, 3) := by decide +kernel
theorem dL_law_281 : decode cL_law 281 = .ok (.aload_n 1, 1) := by decide +kernel
theorem dL_law_282 : decode cL_law 282 = .ok (.aload_n 0, 1) := by decide +kernel
theorem dL_law_283 : decode cL_law 283 = .ok (.iload 4, 2) := by decide +kernel
theorem dL_law_285 : decode cL_law 285 = .ok (.iconst 1, 1) := by decide +kernel
theorem dL_law_286 : decode cL_law 286 = .ok (.iadd, 1) := by decide +kernel
theorem dL_law_287 : decode cL_law 287 = .ok (.iaload, 1) := by decide +kernel
theorem dL_law_288 : decode cL_law 288 = .ok (.invokevirtual 24, 3) := by decide +kernel
theorem dL_law_291 : decode cL_law 291 = .ok (.pop, 1) := by decide +kernel
theorem dL_law_292 : decode cL_law 292 = .ok (.aload_n 2, 1) := by decide +kernel
theorem dL_law_293 : decode cL_law 293 = .ok (.aload_n 0, 1) := by decide +kernel
theorem dL_law_294 : decode cL_law 294 = .ok (.iload 4, 2) := by decide +kernel
theorem dL_law_296 : decode cL_law 296 = .ok (.iconst 1, 1) := by decide +kernel
theorem dL_law_297 : decode cL_law 297 = .ok (.iadd, 1) := by decide +kernel
theorem dL_law_298 : decode cL_law 298 = .ok (.iaload, 1) := by decide +kernel
theorem dL_law_299 : decode cL_law 299 = .ok (.invokevirtual 28, 3) := by decide +kernel
theorem dL_law_302 : decode cL_law 302 = .ok (.pop, 1) := by decide +kernel
theorem dL_law_303 : decode cL_law 303 = .ok (.goto 1306, 3) := by decide +kernel
theorem dL_law_306 : decode cL_law 306 = .ok (.aload_n 1, 1) := by decide +kernel
theorem dL_law_307 : decode cL_law 307 = .ok (.aload_n 0, 1) := by decide +kernel
theorem dL_law_308 : decode cL_law 308 = .ok (.iload 4, 2) := by decide +kernel
theorem dL_law_310 : decode cL_law 310 = .ok (.iconst 1, 1) := by decide +kernel
theorem dL_law_311 : decode cL_law 311 = .ok (.iadd, 1) := by decide +kernel
theorem dL_law_312 : decode cL_law 312 = .ok (.iaload, 1) := by decide +kernel
theorem dL_law_313 : decode cL_law 313 = .ok (.invokevirtual 29, 3) := by decide +kernel
theorem dL_law_316 : decode cL_law 316 = .ok (.pop, 1) := by decide +kernel
theorem dL_law_317 : decode cL_law 317 = .ok (.aload_n 2, 1) := by decide +kernel
theorem dL_law_318 : decode cL_law 318 = .ok (.aload_n 0, 1) := by decide +kernel
theorem dL_law_319 : decode cL_law 319 = .ok (.iload 4, 2) := by decide +kernel
theorem dL_law_321 : decode cL_law 321 = .ok (.iconst 1, 1) := by decide +kernel
theorem dL_law_322 : decode cL_law 322 = .ok (.iadd, 1) := by decide +kernel
theorem dL_law_323 : decode cL_law 323 = .ok (.iaload, 1) := by decide +kernel
theorem dL_law_324 : decode cL_law 324 = .ok (.invokevirtual 32, 3) := by decide +kernel
theorem dL_law_327 : decode cL_law 327 = .ok (.pop, 1) := by decide +kernel
theorem dL_law_328 : decode cL_law 328 = .ok (.goto 1281, 3) := by decide +kernel
theorem dL_law_331 : decode cL_law 331 = .ok (.aload_n 1, 1) := by decide +kernel
theorem dL_law_332 : decode cL_law 332 = .ok (.aload_n 0, 1) := by decide +kernel
theorem dL_law_333 : decode cL_law 333 = .ok (.iload 4, 2) := by decide +kernel
theorem dL_law_335 : decode cL_law 335 = .ok (.iconst 1, 1) := by decide +kernel
theorem dL_law_336 : decode cL_law 336 = .ok (.iadd, 1) := by decide +kernel
theorem dL_law_337 : decode cL_law 337 = .ok (.iaload, 1) := by decide +kernel
theorem dL_law_338 : decode cL_law 338 = .ok (.invokevirtual 33, 3) := by decide +kernel
theorem dL_law_341 : decode cL_law 341 = .ok (.pop, 1) := by decide +kernel
theorem dL_law_342 : decode cL_law 342 = .ok (.aload_n 2, 1) := by decide +kernel
theorem dL_law_343 : decode cL_law 343 = .ok (.aload_n 0, 1) := by decide +kernel
theorem dL_law_344 : decode cL_law 344 = .ok (.iload 4, 2) := by decide +kernel
theorem dL_law_346 : decode cL_law 346 = .ok (.iconst 1, 1) := by decide +kernel
theorem dL_law_347 : decode cL_law 347 = .ok (.iadd, 1) := by decide +kernel
theorem dL_law_348 : decode cL_law 348 = .ok (.iaload, 1) := by decide +kernel
theorem dL_law_349 : decode cL_law 349 = .ok (.invokevirtual 36, 3) := by decide +kernel
theorem dL_law_352 : decode cL_law 352 = .ok (.pop, 1) := by decide +kernel
theorem dL_law_353 : decode cL_law 353 = .ok (.goto 1256, 3) := by decide +kernel
theorem dL_law_356 : decode cL_law 356 = .ok (.aload_n 1, 1) := by decide +kernel
theorem dL_law_357 : decode cL_law 357 = .ok (.aload_n 0, 1) := by decide +kernel
theorem dL_law_358 : decode cL_law 358 = .ok (.iload 4, 2) := by decide +kernel
theorem dL_law_360 : decode cL_law 360 = .ok (.iconst 1, 1) := by decide +kernel
theorem dL_law_361 : decode cL_law 361 = .ok (.iadd, 1) := by decide +kernel
theorem dL_law_362 : decode cL_law 362 = .ok (.iaload, 1) := by decide +kernel
theorem dL_law_363 : decode cL_law 363 = .ok (.aload_n 3, 1) := by decide +kernel
theorem dL_law_364 : decode cL_law 364 = .ok (.invokestatic 37, 3) := by decide +kernel
theorem dL_law_367 : decode cL_law 367 = .ok (.istore 5, 2) := by decide +kernel
theorem dL_law_369 : decode cL_law 369 = .ok (.aload_n 2, 1) := by decide +kernel
theorem dL_law_370 : decode cL_law 370 = .ok (.aload_n 0, 1) := by decide +kernel
theorem dL_law_371 : decode cL_law 371 = .ok (.iload 4, 2) := by decide +kernel
theorem dL_law_373 : decode cL_law 373 = .ok (.iconst 1, 1) := by decide +kernel
theorem dL_law_374 : decode cL_law 374 = .ok (.iadd, 1) := by decide +kernel
theorem dL_law_375 : decode cL_law 375 = .ok (.iaload, 1) := by decide +kernel
theorem dL_law_376 : decode cL_law 376 = .ok (.invokevirtual 42, 3) := by decide +kernel
theorem dL_law_379 : decode cL_law 379 = .ok (.istore 6, 2) := by decide +kernel
theorem dL_law_381 : decode cL_law 381 = .ok (.aload_n 2, 1) := by decide +kernel
theorem dL_law_382 : decode cL_law 382 = .ok (.invokevirtual 43, 3) := by decide +kernel
theorem dL_law_385 : decode cL_law 385 = .ok (.iload 5, 2) := by decide +kernel
theorem dL_law_387 : decode cL_law 387 = .ok (.if_icmp .eq 5, 3) := by decide +kernel
theorem dL_law_390 : decode cL_law 390 = .ok (.iconst 0, 1) := by decide +kernel
theorem dL_law_391 : decode cL_law 391 = .ok (.ireturn, 1) := by decide +kernel
theorem dL_law_392 : decode cL_law 392 = .ok (.iload 5, 2) := by decide +kernel
theorem dL_law_394 : decode cL_law 394 = .ok (.ifCond .ne 15, 3) := by decide +kernel
theorem dL_law_397 : decode cL_law 397 = .ok (.aload_n 3, 1) := by decide +kernel
theorem dL_law_398 : decode cL_law 398 = .ok (.iconst 0, 1) := by decide +kernel
theorem dL_law_399 : decode cL_law 399 = .ok (.laload, 1) := by decide +kernel
theorem dL_law_400 : decode cL_law 400 = .ok (.iload 6, 2) := by decide +kernel
theorem dL_law_402 : decode cL_law 402 = .ok (.i2l, 1) := by decide +kernel
theorem dL_law_403 : decode cL_law 403 = .ok (.lcmp, 1) := by decide +kernel
theorem dL_law_404 : decode cL_law 404 = .ok (.ifCond .eq 5, 3) := by decide +kernel
theorem dL_law_407 : decode cL_law 407 = .ok (.iconst 0, 1) := by decide +kernel
theorem dL_law_408 : decode cL_law 408 = .ok (.ireturn, 1) := by decide +kernel
theorem dL_law_409 : decode cL_law 409 = .ok (.goto 1200, 3) := by decide +kernel
theorem dL_law_412 : decode cL_law 412 = .ok (.aload_n 1, 1) := by decide +kernel
theorem dL_law_413 : decode cL_law 413 = .ok (.aload_n 0, 1) := by decide +kernel
theorem dL_law_414 : decode cL_law 414 = .ok (.iload 4, 2) := by decide +kernel
theorem dL_law_416 : decode cL_law 416 = .ok (.iconst 1, 1) := by decide +kernel
theorem dL_law_417 : decode cL_law 417 = .ok (.iadd, 1) := by decide +kernel
theorem dL_law_418 : decode cL_law 418 = .ok (.iaload, 1) := by decide +kernel
theorem dL_law_419 : decode cL_law 419 = .ok (.invokevirtual 47, 3) := by decide +kernel
theorem dL_law_422 : decode cL_law 422 = .ok (.pop, 1) := by decide +kernel
theorem dL_law_423 : decode cL_law 423 = .ok (.aload_n 2, 1) := by decide +kernel
theorem dL_law_424 : decode cL_law 424 = .ok (.aload_n 0, 1) := by decide +kernel
theorem dL_law_425 : decode cL_law 425 = .ok (.iload 4, 2) := by decide +kernel
theorem dL_law_427 : decode cL_law 427 = .ok (.iconst 1, 1) := by decide +kernel
theorem dL_law_428 : decode cL_law 428 = .ok (.iadd, 1) := by decide +kernel
theorem dL_law_429 : decode cL_law 429 = .ok (.iaload, 1) := by decide +kernel
theorem dL_law_430 : decode cL_law 430 = .ok (.invokevirtual 50, 3) := by decide +kernel
theorem dL_law_433 : decode cL_law 433 = .ok (.pop, 1) := by decide +kernel
theorem dL_law_434 : decode cL_law 434 = .ok (.goto 1175, 3) := by decide +kernel
theorem dL_law_437 : decode cL_law 437 = .ok (.aload_n 1, 1) := by decide +kernel
theorem dL_law_438 : decode cL_law 438 = .ok (.aload_n 0, 1) := by decide +kernel
theorem dL_law_439 : decode cL_law 439 = .ok (.iload 4, 2) := by decide +kernel
theorem dL_law_441 : decode cL_law 441 = .ok (.iconst 1, 1) := by decide +kernel
theorem dL_law_442 : decode cL_law 442 = .ok (.iadd, 1) := by decide +kernel
theorem dL_law_443 : decode cL_law 443 = .ok (.iaload, 1) := by decide +kernel
theorem dL_law_444 : decode cL_law 444 = .ok (.aload_n 0, 1) := by decide +kernel
theorem dL_law_445 : decode cL_law 445 = .ok (.iload 4, 2) := by decide +kernel
theorem dL_law_447 : decode cL_law 447 = .ok (.iconst 2, 1) := by decide +kernel
theorem dL_law_448 : decode cL_law 448 = .ok (.iadd, 1) := by decide +kernel
theorem dL_law_449 : decode cL_law 449 = .ok (.iaload, 1) := by decide +kernel
theorem dL_law_450 : decode cL_law 450 = .ok (.invokevirtual 51, 3) := by decide +kernel
theorem dL_law_453 : decode cL_law 453 = .ok (.pop, 1) := by decide +kernel
theorem dL_law_454 : decode cL_law 454 = .ok (.aload_n 2, 1) := by decide +kernel
theorem dL_law_455 : decode cL_law 455 = .ok (.aload_n 0, 1) := by decide +kernel
theorem dL_law_456 : decode cL_law 456 = .ok (.iload 4, 2) := by decide +kernel
theorem dL_law_458 : decode cL_law 458 = .ok (.iconst 1, 1) := by decide +kernel
theorem dL_law_459 : decode cL_law 459 = .ok (.iadd, 1) := by decide +kernel
theorem dL_law_460 : decode cL_law 460 = .ok (.iaload, 1) := by decide +kernel
theorem dL_law_461 : decode cL_law 461 = .ok (.aload_n 0, 1) := by decide +kernel
theorem dL_law_462 : decode cL_law 462 = .ok (.iload 4, 2) := by decide +kernel
theorem dL_law_464 : decode cL_law 464 = .ok (.iconst 2, 1) := by decide +kernel
theorem dL_law_465 : decode cL_law 465 = .ok (.iadd, 1) := by decide +kernel
theorem dL_law_466 : decode cL_law 466 = .ok (.iaload, 1) := by decide +kernel
theorem dL_law_467 : decode cL_law 467 = .ok (.invokevirtual 55, 3) := by decide +kernel
theorem dL_law_470 : decode cL_law 470 = .ok (.pop, 1) := by decide +kernel
theorem dL_law_471 : decode cL_law 471 = .ok (.goto 1138, 3) := by decide +kernel
theorem dL_law_474 : decode cL_law 474 = .ok (.aload_n 1, 1) := by decide +kernel
theorem dL_law_475 : decode cL_law 475 = .ok (.aload_n 0, 1) := by decide +kernel
theorem dL_law_476 : decode cL_law 476 = .ok (.iload 4, 2) := by decide +kernel
theorem dL_law_478 : decode cL_law 478 = .ok (.iconst 1, 1) := by decide +kernel
theorem dL_law_479 : decode cL_law 479 = .ok (.iadd, 1) := by decide +kernel
theorem dL_law_480 : decode cL_law 480 = .ok (.iaload, 1) := by decide +kernel
theorem dL_law_481 : decode cL_law 481 = .ok (.aload_n 0, 1) := by decide +kernel
theorem dL_law_482 : decode cL_law 482 = .ok (.iload 4, 2) := by decide +kernel
theorem dL_law_484 : decode cL_law 484 = .ok (.iconst 2, 1) := by decide +kernel
theorem dL_law_485 : decode cL_law 485 = .ok (.iadd, 1) := by decide +kernel
theorem dL_law_486 : decode cL_law 486 = .ok (.iaload, 1) := by decide +kernel
theorem dL_law_487 : decode cL_law 487 = .ok (.aload_n 0, 1) := by decide +kernel
theorem dL_law_488 : decode cL_law 488 = .ok (.iload 4, 2) := by decide +kernel
theorem dL_law_490 : decode cL_law 490 = .ok (.iconst 3, 1) := by decide +kernel
theorem dL_law_491 : decode cL_law 491 = .ok (.iadd, 1) := by decide +kernel
theorem dL_law_492 : decode cL_law 492 = .ok (.iaload, 1) := by decide +kernel
theorem dL_law_493 : decode cL_law 493 = .ok (.invokevirtual 56, 3) := by decide +kernel
theorem dL_law_496 : decode cL_law 496 = .ok (.pop, 1) := by decide +kernel
theorem dL_law_497 : decode cL_law 497 = .ok (.aload_n 2, 1) := by decide +kernel
theorem dL_law_498 : decode cL_law 498 = .ok (.aload_n 0, 1) := by decide +kernel
theorem dL_law_499 : decode cL_law 499 = .ok (.iload 4, 2) := by decide +kernel
theorem dL_law_501 : decode cL_law 501 = .ok (.iconst 1, 1) := by decide +kernel
theorem dL_law_502 : decode cL_law 502 = .ok (.iadd, 1) := by decide +kernel
theorem dL_law_503 : decode cL_law 503 = .ok (.iaload, 1) := by decide +kernel
theorem dL_law_504 : decode cL_law 504 = .ok (.aload_n 0, 1) := by decide +kernel
theorem dL_law_505 : decode cL_law 505 = .ok (.iload 4, 2) := by decide +kernel
theorem dL_law_507 : decode cL_law 507 = .ok (.iconst 2, 1) := by decide +kernel
theorem dL_law_508 : decode cL_law 508 = .ok (.iadd, 1) := by decide +kernel
theorem dL_law_509 : decode cL_law 509 = .ok (.iaload, 1) := by decide +kernel
theorem dL_law_510 : decode cL_law 510 = .ok (.aload_n 0, 1) := by decide +kernel
theorem dL_law_511 : decode cL_law 511 = .ok (.iload 4, 2) := by decide +kernel
theorem dL_law_513 : decode cL_law 513 = .ok (.iconst 3, 1) := by decide +kernel
theorem dL_law_514 : decode cL_law 514 = .ok (.iadd, 1) := by decide +kernel
theorem dL_law_515 : decode cL_law 515 = .ok (.iaload, 1) := by decide +kernel
theorem dL_law_516 : decode cL_law 516 = .ok (.invokevirtual 60, 3) := by decide +kernel
theorem dL_law_519 : decode cL_law 519 = .ok (.pop, 1) := by decide +kernel
theorem dL_law_520 : decode cL_law 520 = .ok (.goto 1089, 3) := by decide +kernel
theorem dL_law_523 : decode cL_law 523 = .ok (.aload_n 1, 1) := by decide +kernel
theorem dL_law_524 : decode cL_law 524 = .ok (.aload_n 0, 1) := by decide +kernel
theorem dL_law_525 : decode cL_law 525 = .ok (.iload 4, 2) := by decide +kernel
theorem dL_law_527 : decode cL_law 527 = .ok (.iconst 1, 1) := by decide +kernel
theorem dL_law_528 : decode cL_law 528 = .ok (.iadd, 1) := by decide +kernel
theorem dL_law_529 : decode cL_law 529 = .ok (.iaload, 1) := by decide +kernel
theorem dL_law_530 : decode cL_law 530 = .ok (.aload_n 0, 1) := by decide +kernel
theorem dL_law_531 : decode cL_law 531 = .ok (.iload 4, 2) := by decide +kernel
theorem dL_law_533 : decode cL_law 533 = .ok (.iconst 2, 1) := by decide +kernel
theorem dL_law_534 : decode cL_law 534 = .ok (.iadd, 1) := by decide +kernel
theorem dL_law_535 : decode cL_law 535 = .ok (.iaload, 1) := by decide +kernel
theorem dL_law_536 : decode cL_law 536 = .ok (.invokevirtual 61, 3) := by decide +kernel
theorem dL_law_539 : decode cL_law 539 = .ok (.pop, 1) := by decide +kernel
theorem dL_law_540 : decode cL_law 540 = .ok (.aload_n 2, 1) := by decide +kernel
theorem dL_law_541 : decode cL_law 541 = .ok (.aload_n 0, 1) := by decide +kernel
theorem dL_law_542 : decode cL_law 542 = .ok (.iload 4, 2) := by decide +kernel
theorem dL_law_544 : decode cL_law 544 = .ok (.iconst 1, 1) := by decide +kernel
theorem dL_law_545 : decode cL_law 545 = .ok (.iadd, 1) := by decide +kernel
theorem dL_law_546 : decode cL_law 546 = .ok (.iaload, 1) := by decide +kernel
theorem dL_law_547 : decode cL_law 547 = .ok (.aload_n 0, 1) := by decide +kernel
theorem dL_law_548 : decode cL_law 548 = .ok (.iload 4, 2) := by decide +kernel
theorem dL_law_550 : decode cL_law 550 = .ok (.iconst 2, 1) := by decide +kernel
theorem dL_law_551 : decode cL_law 551 = .ok (.iadd, 1) := by decide +kernel
theorem dL_law_552 : decode cL_law 552 = .ok (.iaload, 1) := by decide +kernel
theorem dL_law_553 : decode cL_law 553 = .ok (.invokevirtual 65, 3) := by decide +kernel
theorem dL_law_556 : decode cL_law 556 = .ok (.pop, 1) := by decide +kernel
theorem dL_law_557 : decode cL_law 557 = .ok (.goto 1052, 3) := by decide +kernel
theorem dL_law_560 : decode cL_law 560 = .ok (.aload_n 1, 1) := by decide +kernel
theorem dL_law_561 : decode cL_law 561 = .ok (.aload_n 0, 1) := by decide +kernel
theorem dL_law_562 : decode cL_law 562 = .ok (.iload 4, 2) := by decide +kernel
theorem dL_law_564 : decode cL_law 564 = .ok (.iconst 1, 1) := by decide +kernel
theorem dL_law_565 : decode cL_law 565 = .ok (.iadd, 1) := by decide +kernel
theorem dL_law_566 : decode cL_law 566 = .ok (.iaload, 1) := by decide +kernel
theorem dL_law_567 : decode cL_law 567 = .ok (.aload_n 0, 1) := by decide +kernel
theorem dL_law_568 : decode cL_law 568 = .ok (.iload 4, 2) := by decide +kernel
theorem dL_law_570 : decode cL_law 570 = .ok (.iconst 2, 1) := by decide +kernel
theorem dL_law_571 : decode cL_law 571 = .ok (.iadd, 1) := by decide +kernel
theorem dL_law_572 : decode cL_law 572 = .ok (.iaload, 1) := by decide +kernel
theorem dL_law_573 : decode cL_law 573 = .ok (.invokevirtual 66, 3) := by decide +kernel
theorem dL_law_576 : decode cL_law 576 = .ok (.pop, 1) := by decide +kernel
theorem dL_law_577 : decode cL_law 577 = .ok (.aload_n 2, 1) := by decide +kernel
theorem dL_law_578 : decode cL_law 578 = .ok (.aload_n 0, 1) := by decide +kernel
theorem dL_law_579 : decode cL_law 579 = .ok (.iload 4, 2) := by decide +kernel
theorem dL_law_581 : decode cL_law 581 = .ok (.iconst 1, 1) := by decide +kernel
theorem dL_law_582 : decode cL_law 582 = .ok (.iadd, 1) := by decide +kernel
theorem dL_law_583 : decode cL_law 583 = .ok (.iaload, 1) := by decide +kernel
theorem dL_law_584 : decode cL_law 584 = .ok (.aload_n 0, 1) := by decide +kernel
theorem dL_law_585 : decode cL_law 585 = .ok (.iload 4, 2) := by decide +kernel
theorem dL_law_587 : decode cL_law 587 = .ok (.iconst 2, 1) := by decide +kernel
theorem dL_law_588 : decode cL_law 588 = .ok (.iadd, 1) := by decide +kernel
theorem dL_law_589 : decode cL_law 589 = .ok (.iaload, 1) := by decide +kernel
theorem dL_law_590 : decode cL_law 590 = .ok (.invokevirtual 69, 3) := by decide +kernel
theorem dL_law_593 : decode cL_law 593 = .ok (.pop, 1) := by decide +kernel
theorem dL_law_594 : decode cL_law 594 = .ok (.goto 1015, 3) := by decide +kernel
theorem dL_law_597 : decode cL_law 597 = .ok (.aload_n 1, 1) := by decide +kernel
theorem dL_law_598 : decode cL_law 598 = .ok (.aload_n 0, 1) := by decide +kernel
theorem dL_law_599 : decode cL_law 599 = .ok (.iload 4, 2) := by decide +kernel
theorem dL_law_601 : decode cL_law 601 = .ok (.iconst 1, 1) := by decide +kernel
theorem dL_law_602 : decode cL_law 602 = .ok (.iadd, 1) := by decide +kernel
theorem dL_law_603 : decode cL_law 603 = .ok (.iaload, 1) := by decide +kernel
theorem dL_law_604 : decode cL_law 604 = .ok (.aload_n 0, 1) := by decide +kernel
theorem dL_law_605 : decode cL_law 605 = .ok (.iload 4, 2) := by decide +kernel
theorem dL_law_607 : decode cL_law 607 = .ok (.iconst 2, 1) := by decide +kernel
theorem dL_law_608 : decode cL_law 608 = .ok (.iadd, 1) := by decide +kernel
theorem dL_law_609 : decode cL_law 609 = .ok (.iaload, 1) := by decide +kernel
theorem dL_law_610 : decode cL_law 610 = .ok (.invokevirtual 70, 3) := by decide +kernel
theorem dL_law_613 : decode cL_law 613 = .ok (.pop, 1) := by decide +kernel
theorem dL_law_614 : decode cL_law 614 = .ok (.aload_n 2, 1) := by decide +kernel
theorem dL_law_615 : decode cL_law 615 = .ok (.aload_n 0, 1) := by decide +kernel
theorem dL_law_616 : decode cL_law 616 = .ok (.iload 4, 2) := by decide +kernel
theorem dL_law_618 : decode cL_law 618 = .ok (.iconst 1, 1) := by decide +kernel
theorem dL_law_619 : decode cL_law 619 = .ok (.iadd, 1) := by decide +kernel
theorem dL_law_620 : decode cL_law 620 = .ok (.iaload, 1) := by decide +kernel
theorem dL_law_621 : decode cL_law 621 = .ok (.aload_n 0, 1) := by decide +kernel
theorem dL_law_622 : decode cL_law 622 = .ok (.iload 4, 2) := by decide +kernel
theorem dL_law_624 : decode cL_law 624 = .ok (.iconst 2, 1) := by decide +kernel
theorem dL_law_625 : decode cL_law 625 = .ok (.iadd, 1) := by decide +kernel
theorem dL_law_626 : decode cL_law 626 = .ok (.iaload, 1) := by decide +kernel
theorem dL_law_627 : decode cL_law 627 = .ok (.invokevirtual 73, 3) := by decide +kernel
theorem dL_law_630 : decode cL_law 630 = .ok (.pop, 1) := by decide +kernel
theorem dL_law_631 : decode cL_law 631 = .ok (.goto 978, 3) := by decide +kernel
theorem dL_law_634 : decode cL_law 634 = .ok (.aload_n 1, 1) := by decide +kernel
theorem dL_law_635 : decode cL_law 635 = .ok (.aload_n 0, 1) := by decide +kernel
theorem dL_law_636 : decode cL_law 636 = .ok (.iload 4, 2) := by decide +kernel
theorem dL_law_638 : decode cL_law 638 = .ok (.iconst 1, 1) := by decide +kernel
theorem dL_law_639 : decode cL_law 639 = .ok (.iadd, 1) := by decide +kernel
theorem dL_law_640 : decode cL_law 640 = .ok (.iaload, 1) := by decide +kernel
theorem dL_law_641 : decode cL_law 641 = .ok (.invokevirtual 74, 3) := by decide +kernel
theorem dL_law_644 : decode cL_law 644 = .ok (.pop, 1) := by decide +kernel
theorem dL_law_645 : decode cL_law 645 = .ok (.aload_n 2, 1) := by decide +kernel
theorem dL_law_646 : decode cL_law 646 = .ok (.aload_n 0, 1) := by decide +kernel
theorem dL_law_647 : decode cL_law 647 = .ok (.iload 4, 2) := by decide +kernel
theorem dL_law_649 : decode cL_law 649 = .ok (.iconst 1, 1) := by decide +kernel
theorem dL_law_650 : decode cL_law 650 = .ok (.iadd, 1) := by decide +kernel
theorem dL_law_651 : decode cL_law 651 = .ok (.iaload, 1) := by decide +kernel
theorem dL_law_652 : decode cL_law 652 = .ok (.invokevirtual 77, 3) := by decide +kernel
theorem dL_law_655 : decode cL_law 655 = .ok (.pop, 1) := by decide +kernel
theorem dL_law_656 : decode cL_law 656 = .ok (.goto 953, 3) := by decide +kernel
theorem dL_law_659 : decode cL_law 659 = .ok (.aload_n 1, 1) := by decide +kernel
theorem dL_law_660 : decode cL_law 660 = .ok (.aload_n 0, 1) := by decide +kernel
theorem dL_law_661 : decode cL_law 661 = .ok (.iload 4, 2) := by decide +kernel
theorem dL_law_663 : decode cL_law 663 = .ok (.iconst 1, 1) := by decide +kernel
theorem dL_law_664 : decode cL_law 664 = .ok (.iadd, 1) := by decide +kernel
theorem dL_law_665 : decode cL_law 665 = .ok (.iaload, 1) := by decide +kernel
theorem dL_law_666 : decode cL_law 666 = .ok (.aload_n 0, 1) := by decide +kernel
theorem dL_law_667 : decode cL_law 667 = .ok (.iload 4, 2) := by decide +kernel
theorem dL_law_669 : decode cL_law 669 = .ok (.iconst 2, 1) := by decide +kernel
theorem dL_law_670 : decode cL_law 670 = .ok (.iadd, 1) := by decide +kernel
theorem dL_law_671 : decode cL_law 671 = .ok (.iaload, 1) := by decide +kernel
theorem dL_law_672 : decode cL_law 672 = .ok (.aload_n 0, 1) := by decide +kernel
theorem dL_law_673 : decode cL_law 673 = .ok (.iload 4, 2) := by decide +kernel
theorem dL_law_675 : decode cL_law 675 = .ok (.iconst 3, 1) := by decide +kernel
theorem dL_law_676 : decode cL_law 676 = .ok (.iadd, 1) := by decide +kernel
theorem dL_law_677 : decode cL_law 677 = .ok (.iaload, 1) := by decide +kernel
theorem dL_law_678 : decode cL_law 678 = .ok (.invokevirtual 78, 3) := by decide +kernel
theorem dL_law_681 : decode cL_law 681 = .ok (.pop, 1) := by decide +kernel
theorem dL_law_682 : decode cL_law 682 = .ok (.aload_n 2, 1) := by decide +kernel
theorem dL_law_683 : decode cL_law 683 = .ok (.aload_n 0, 1) := by decide +kernel
theorem dL_law_684 : decode cL_law 684 = .ok (.iload 4, 2) := by decide +kernel
theorem dL_law_686 : decode cL_law 686 = .ok (.iconst 1, 1) := by decide +kernel
theorem dL_law_687 : decode cL_law 687 = .ok (.iadd, 1) := by decide +kernel
theorem dL_law_688 : decode cL_law 688 = .ok (.iaload, 1) := by decide +kernel
theorem dL_law_689 : decode cL_law 689 = .ok (.aload_n 0, 1) := by decide +kernel
theorem dL_law_690 : decode cL_law 690 = .ok (.iload 4, 2) := by decide +kernel
theorem dL_law_692 : decode cL_law 692 = .ok (.iconst 2, 1) := by decide +kernel
theorem dL_law_693 : decode cL_law 693 = .ok (.iadd, 1) := by decide +kernel
theorem dL_law_694 : decode cL_law 694 = .ok (.iaload, 1) := by decide +kernel
theorem dL_law_695 : decode cL_law 695 = .ok (.aload_n 0, 1) := by decide +kernel
theorem dL_law_696 : decode cL_law 696 = .ok (.iload 4, 2) := by decide +kernel
theorem dL_law_698 : decode cL_law 698 = .ok (.iconst 3, 1) := by decide +kernel
theorem dL_law_699 : decode cL_law 699 = .ok (.iadd, 1) := by decide +kernel
theorem dL_law_700 : decode cL_law 700 = .ok (.iaload, 1) := by decide +kernel
theorem dL_law_701 : decode cL_law 701 = .ok (.invokevirtual 81, 3) := by decide +kernel
theorem dL_law_704 : decode cL_law 704 = .ok (.pop, 1) := by decide +kernel
theorem dL_law_705 : decode cL_law 705 = .ok (.goto 904, 3) := by decide +kernel
theorem dL_law_708 : decode cL_law 708 = .ok (.aload_n 1, 1) := by decide +kernel
theorem dL_law_709 : decode cL_law 709 = .ok (.aload_n 0, 1) := by decide +kernel
theorem dL_law_710 : decode cL_law 710 = .ok (.iload 4, 2) := by decide +kernel
theorem dL_law_712 : decode cL_law 712 = .ok (.iconst 1, 1) := by decide +kernel
theorem dL_law_713 : decode cL_law 713 = .ok (.iadd, 1) := by decide +kernel
theorem dL_law_714 : decode cL_law 714 = .ok (.iaload, 1) := by decide +kernel
theorem dL_law_715 : decode cL_law 715 = .ok (.aload_n 0, 1) := by decide +kernel
theorem dL_law_716 : decode cL_law 716 = .ok (.iload 4, 2) := by decide +kernel
theorem dL_law_718 : decode cL_law 718 = .ok (.iconst 2, 1) := by decide +kernel
theorem dL_law_719 : decode cL_law 719 = .ok (.iadd, 1) := by decide +kernel
theorem dL_law_720 : decode cL_law 720 = .ok (.iaload, 1) := by decide +kernel
theorem dL_law_721 : decode cL_law 721 = .ok (.aload_n 0, 1) := by decide +kernel
theorem dL_law_722 : decode cL_law 722 = .ok (.iload 4, 2) := by decide +kernel
theorem dL_law_724 : decode cL_law 724 = .ok (.iconst 3, 1) := by decide +kernel
theorem dL_law_725 : decode cL_law 725 = .ok (.iadd, 1) := by decide +kernel
theorem dL_law_726 : decode cL_law 726 = .ok (.iaload, 1) := by decide +kernel
theorem dL_law_727 : decode cL_law 727 = .ok (.aload_n 0, 1) := by decide +kernel
theorem dL_law_728 : decode cL_law 728 = .ok (.iload 4, 2) := by decide +kernel
theorem dL_law_730 : decode cL_law 730 = .ok (.iconst 4, 1) := by decide +kernel
theorem dL_law_731 : decode cL_law 731 = .ok (.iadd, 1) := by decide +kernel
theorem dL_law_732 : decode cL_law 732 = .ok (.iaload, 1) := by decide +kernel
theorem dL_law_733 : decode cL_law 733 = .ok (.invokevirtual 82, 3) := by decide +kernel
theorem dL_law_736 : decode cL_law 736 = .ok (.pop, 1) := by decide +kernel
theorem dL_law_737 : decode cL_law 737 = .ok (.aload_n 2, 1) := by decide +kernel
theorem dL_law_738 : decode cL_law 738 = .ok (.aload_n 0, 1) := by decide +kernel
theorem dL_law_739 : decode cL_law 739 = .ok (.iload 4, 2) := by decide +kernel
theorem dL_law_741 : decode cL_law 741 = .ok (.iconst 1, 1) := by decide +kernel
theorem dL_law_742 : decode cL_law 742 = .ok (.iadd, 1) := by decide +kernel
theorem dL_law_743 : decode cL_law 743 = .ok (.iaload, 1) := by decide +kernel
theorem dL_law_744 : decode cL_law 744 = .ok (.aload_n 0, 1) := by decide +kernel
theorem dL_law_745 : decode cL_law 745 = .ok (.iload 4, 2) := by decide +kernel
theorem dL_law_747 : decode cL_law 747 = .ok (.iconst 2, 1) := by decide +kernel
theorem dL_law_748 : decode cL_law 748 = .ok (.iadd, 1) := by decide +kernel
theorem dL_law_749 : decode cL_law 749 = .ok (.iaload, 1) := by decide +kernel
theorem dL_law_750 : decode cL_law 750 = .ok (.aload_n 0, 1) := by decide +kernel
theorem dL_law_751 : decode cL_law 751 = .ok (.iload 4, 2) := by decide +kernel
theorem dL_law_753 : decode cL_law 753 = .ok (.iconst 3, 1) := by decide +kernel
theorem dL_law_754 : decode cL_law 754 = .ok (.iadd, 1) := by decide +kernel
theorem dL_law_755 : decode cL_law 755 = .ok (.iaload, 1) := by decide +kernel
theorem dL_law_756 : decode cL_law 756 = .ok (.aload_n 0, 1) := by decide +kernel
theorem dL_law_757 : decode cL_law 757 = .ok (.iload 4, 2) := by decide +kernel
theorem dL_law_759 : decode cL_law 759 = .ok (.iconst 4, 1) := by decide +kernel
theorem dL_law_760 : decode cL_law 760 = .ok (.iadd, 1) := by decide +kernel
theorem dL_law_761 : decode cL_law 761 = .ok (.iaload, 1) := by decide +kernel
theorem dL_law_762 : decode cL_law 762 = .ok (.invokevirtual 86, 3) := by decide +kernel
theorem dL_law_765 : decode cL_law 765 = .ok (.pop, 1) := by decide +kernel
theorem dL_law_766 : decode cL_law 766 = .ok (.goto 843, 3) := by decide +kernel
theorem dL_law_769 : decode cL_law 769 = .ok (.aload_n 1, 1) := by decide +kernel
theorem dL_law_770 : decode cL_law 770 = .ok (.aload_n 0, 1) := by decide +kernel
theorem dL_law_771 : decode cL_law 771 = .ok (.iload 4, 2) := by decide +kernel
theorem dL_law_773 : decode cL_law 773 = .ok (.iconst 1, 1) := by decide +kernel
theorem dL_law_774 : decode cL_law 774 = .ok (.iadd, 1) := by decide +kernel
theorem dL_law_775 : decode cL_law 775 = .ok (.iaload, 1) := by decide +kernel
theorem dL_law_776 : decode cL_law 776 = .ok (.aload_n 0, 1) := by decide +kernel
theorem dL_law_777 : decode cL_law 777 = .ok (.iload 4, 2) := by decide +kernel
theorem dL_law_779 : decode cL_law 779 = .ok (.iconst 2, 1) := by decide +kernel
theorem dL_law_780 : decode cL_law 780 = .ok (.iadd, 1) := by decide +kernel
theorem dL_law_781 : decode cL_law 781 = .ok (.iaload, 1) := by decide +kernel
theorem dL_law_782 : decode cL_law 782 = .ok (.aload_n 0, 1) := by decide +kernel
theorem dL_law_783 : decode cL_law 783 = .ok (.iload 4, 2) := by decide +kernel
theorem dL_law_785 : decode cL_law 785 = .ok (.iconst 3, 1) := by decide +kernel
theorem dL_law_786 : decode cL_law 786 = .ok (.iadd, 1) := by decide +kernel
theorem dL_law_787 : decode cL_law 787 = .ok (.iaload, 1) := by decide +kernel
theorem dL_law_788 : decode cL_law 788 = .ok (.invokevirtual 87, 3) := by decide +kernel
theorem dL_law_791 : decode cL_law 791 = .ok (.pop, 1) := by decide +kernel
theorem dL_law_792 : decode cL_law 792 = .ok (.aload_n 2, 1) := by decide +kernel
theorem dL_law_793 : decode cL_law 793 = .ok (.aload_n 0, 1) := by decide +kernel
theorem dL_law_794 : decode cL_law 794 = .ok (.iload 4, 2) := by decide +kernel
theorem dL_law_796 : decode cL_law 796 = .ok (.iconst 1, 1) := by decide +kernel
theorem dL_law_797 : decode cL_law 797 = .ok (.iadd, 1) := by decide +kernel
theorem dL_law_798 : decode cL_law 798 = .ok (.iaload, 1) := by decide +kernel
theorem dL_law_799 : decode cL_law 799 = .ok (.aload_n 0, 1) := by decide +kernel
theorem dL_law_800 : decode cL_law 800 = .ok (.iload 4, 2) := by decide +kernel
theorem dL_law_802 : decode cL_law 802 = .ok (.iconst 2, 1) := by decide +kernel
theorem dL_law_803 : decode cL_law 803 = .ok (.iadd, 1) := by decide +kernel
theorem dL_law_804 : decode cL_law 804 = .ok (.iaload, 1) := by decide +kernel
theorem dL_law_805 : decode cL_law 805 = .ok (.aload_n 0, 1) := by decide +kernel
theorem dL_law_806 : decode cL_law 806 = .ok (.iload 4, 2) := by decide +kernel
theorem dL_law_808 : decode cL_law 808 = .ok (.iconst 3, 1) := by decide +kernel
theorem dL_law_809 : decode cL_law 809 = .ok (.iadd, 1) := by decide +kernel
theorem dL_law_810 : decode cL_law 810 = .ok (.iaload, 1) := by decide +kernel
theorem dL_law_811 : decode cL_law 811 = .ok (.invokevirtual 90, 3) := by decide +kernel
theorem dL_law_814 : decode cL_law 814 = .ok (.pop, 1) := by decide +kernel
theorem dL_law_815 : decode cL_law 815 = .ok (.goto 794, 3) := by decide +kernel
theorem dL_law_818 : decode cL_law 818 = .ok (.aload_n 1, 1) := by decide +kernel
theorem dL_law_819 : decode cL_law 819 = .ok (.aload_n 0, 1) := by decide +kernel
theorem dL_law_820 : decode cL_law 820 = .ok (.iload 4, 2) := by decide +kernel
theorem dL_law_822 : decode cL_law 822 = .ok (.iconst 1, 1) := by decide +kernel
theorem dL_law_823 : decode cL_law 823 = .ok (.iadd, 1) := by decide +kernel
theorem dL_law_824 : decode cL_law 824 = .ok (.iaload, 1) := by decide +kernel
theorem dL_law_825 : decode cL_law 825 = .ok (.aload_n 0, 1) := by decide +kernel
theorem dL_law_826 : decode cL_law 826 = .ok (.iload 4, 2) := by decide +kernel
theorem dL_law_828 : decode cL_law 828 = .ok (.iconst 2, 1) := by decide +kernel
theorem dL_law_829 : decode cL_law 829 = .ok (.iadd, 1) := by decide +kernel
theorem dL_law_830 : decode cL_law 830 = .ok (.iaload, 1) := by decide +kernel
theorem dL_law_831 : decode cL_law 831 = .ok (.aload_n 0, 1) := by decide +kernel
theorem dL_law_832 : decode cL_law 832 = .ok (.iload 4, 2) := by decide +kernel
theorem dL_law_834 : decode cL_law 834 = .ok (.iconst 3, 1) := by decide +kernel
theorem dL_law_835 : decode cL_law 835 = .ok (.iadd, 1) := by decide +kernel
theorem dL_law_836 : decode cL_law 836 = .ok (.iaload, 1) := by decide +kernel
theorem dL_law_837 : decode cL_law 837 = .ok (.invokevirtual 91, 3) := by decide +kernel
theorem dL_law_840 : decode cL_law 840 = .ok (.pop, 1) := by decide +kernel
theorem dL_law_841 : decode cL_law 841 = .ok (.aload_n 2, 1) := by decide +kernel
theorem dL_law_842 : decode cL_law 842 = .ok (.aload_n 0, 1) := by decide +kernel
theorem dL_law_843 : decode cL_law 843 = .ok (.iload 4, 2) := by decide +kernel
theorem dL_law_845 : decode cL_law 845 = .ok (.iconst 1, 1) := by decide +kernel
theorem dL_law_846 : decode cL_law 846 = .ok (.iadd, 1) := by decide +kernel
theorem dL_law_847 : decode cL_law 847 = .ok (.iaload, 1) := by decide +kernel
theorem dL_law_848 : decode cL_law 848 = .ok (.aload_n 0, 1) := by decide +kernel
theorem dL_law_849 : decode cL_law 849 = .ok (.iload 4, 2) := by decide +kernel
theorem dL_law_851 : decode cL_law 851 = .ok (.iconst 2, 1) := by decide +kernel
theorem dL_law_852 : decode cL_law 852 = .ok (.iadd, 1) := by decide +kernel
theorem dL_law_853 : decode cL_law 853 = .ok (.iaload, 1) := by decide +kernel
theorem dL_law_854 : decode cL_law 854 = .ok (.aload_n 0, 1) := by decide +kernel
theorem dL_law_855 : decode cL_law 855 = .ok (.iload 4, 2) := by decide +kernel
theorem dL_law_857 : decode cL_law 857 = .ok (.iconst 3, 1) := by decide +kernel
theorem dL_law_858 : decode cL_law 858 = .ok (.iadd, 1) := by decide +kernel
theorem dL_law_859 : decode cL_law 859 = .ok (.iaload, 1) := by decide +kernel
theorem dL_law_860 : decode cL_law 860 = .ok (.invokevirtual 94, 3) := by decide +kernel
theorem dL_law_863 : decode cL_law 863 = .ok (.pop, 1) := by decide +kernel
theorem dL_law_864 : decode cL_law 864 = .ok (.goto 745, 3) := by decide +kernel
theorem dL_law_867 : decode cL_law 867 = .ok (.aload_n 1, 1) := by decide +kernel
theorem dL_law_868 : decode cL_law 868 = .ok (.aload_n 0, 1) := by decide +kernel
theorem dL_law_869 : decode cL_law 869 = .ok (.iload 4, 2) := by decide +kernel
theorem dL_law_871 : decode cL_law 871 = .ok (.iconst 1, 1) := by decide +kernel
theorem dL_law_872 : decode cL_law 872 = .ok (.iadd, 1) := by decide +kernel
theorem dL_law_873 : decode cL_law 873 = .ok (.iaload, 1) := by decide +kernel
theorem dL_law_874 : decode cL_law 874 = .ok (.aload_n 0, 1) := by decide +kernel
theorem dL_law_875 : decode cL_law 875 = .ok (.iload 4, 2) := by decide +kernel
theorem dL_law_877 : decode cL_law 877 = .ok (.iconst 2, 1) := by decide +kernel
theorem dL_law_878 : decode cL_law 878 = .ok (.iadd, 1) := by decide +kernel
theorem dL_law_879 : decode cL_law 879 = .ok (.iaload, 1) := by decide +kernel
theorem dL_law_880 : decode cL_law 880 = .ok (.invokevirtual 95, 3) := by decide +kernel
theorem dL_law_883 : decode cL_law 883 = .ok (.pop, 1) := by decide +kernel
theorem dL_law_884 : decode cL_law 884 = .ok (.aload_n 2, 1) := by decide +kernel
theorem dL_law_885 : decode cL_law 885 = .ok (.aload_n 0, 1) := by decide +kernel
theorem dL_law_886 : decode cL_law 886 = .ok (.iload 4, 2) := by decide +kernel
theorem dL_law_888 : decode cL_law 888 = .ok (.iconst 1, 1) := by decide +kernel
theorem dL_law_889 : decode cL_law 889 = .ok (.iadd, 1) := by decide +kernel
theorem dL_law_890 : decode cL_law 890 = .ok (.iaload, 1) := by decide +kernel
theorem dL_law_891 : decode cL_law 891 = .ok (.aload_n 0, 1) := by decide +kernel
theorem dL_law_892 : decode cL_law 892 = .ok (.iload 4, 2) := by decide +kernel
theorem dL_law_894 : decode cL_law 894 = .ok (.iconst 2, 1) := by decide +kernel
theorem dL_law_895 : decode cL_law 895 = .ok (.iadd, 1) := by decide +kernel
theorem dL_law_896 : decode cL_law 896 = .ok (.iaload, 1) := by decide +kernel
theorem dL_law_897 : decode cL_law 897 = .ok (.invokevirtual 98, 3) := by decide +kernel
theorem dL_law_900 : decode cL_law 900 = .ok (.pop, 1) := by decide +kernel
theorem dL_law_901 : decode cL_law 901 = .ok (.goto 708, 3) := by decide +kernel
theorem dL_law_904 : decode cL_law 904 = .ok (.aload_n 1, 1) := by decide +kernel
theorem dL_law_905 : decode cL_law 905 = .ok (.aload_n 0, 1) := by decide +kernel
theorem dL_law_906 : decode cL_law 906 = .ok (.iload 4, 2) := by decide +kernel
theorem dL_law_908 : decode cL_law 908 = .ok (.iconst 1, 1) := by decide +kernel
theorem dL_law_909 : decode cL_law 909 = .ok (.iadd, 1) := by decide +kernel
theorem dL_law_910 : decode cL_law 910 = .ok (.iaload, 1) := by decide +kernel
theorem dL_law_911 : decode cL_law 911 = .ok (.invokevirtual 99, 3) := by decide +kernel
theorem dL_law_914 : decode cL_law 914 = .ok (.pop, 1) := by decide +kernel
theorem dL_law_915 : decode cL_law 915 = .ok (.aload_n 2, 1) := by decide +kernel
theorem dL_law_916 : decode cL_law 916 = .ok (.aload_n 0, 1) := by decide +kernel
theorem dL_law_917 : decode cL_law 917 = .ok (.iload 4, 2) := by decide +kernel
theorem dL_law_919 : decode cL_law 919 = .ok (.iconst 1, 1) := by decide +kernel
theorem dL_law_920 : decode cL_law 920 = .ok (.iadd, 1) := by decide +kernel
theorem dL_law_921 : decode cL_law 921 = .ok (.iaload, 1) := by decide +kernel
theorem dL_law_922 : decode cL_law 922 = .ok (.invokevirtual 102, 3) := by decide +kernel
theorem dL_law_925 : decode cL_law 925 = .ok (.pop, 1) := by decide +kernel
theorem dL_law_926 : decode cL_law 926 = .ok (.goto 683, 3) := by decide +kernel
theorem dL_law_929 : decode cL_law 929 = .ok (.aload_n 1, 1) := by decide +kernel
theorem dL_law_930 : decode cL_law 930 = .ok (.aload_n 0, 1) := by decide +kernel
theorem dL_law_931 : decode cL_law 931 = .ok (.iload 4, 2) := by decide +kernel
theorem dL_law_933 : decode cL_law 933 = .ok (.iconst 1, 1) := by decide +kernel
theorem dL_law_934 : decode cL_law 934 = .ok (.iadd, 1) := by decide +kernel
theorem dL_law_935 : decode cL_law 935 = .ok (.iaload, 1) := by decide +kernel
theorem dL_law_936 : decode cL_law 936 = .ok (.invokevirtual 103, 3) := by decide +kernel
theorem dL_law_939 : decode cL_law 939 = .ok (.pop, 1) := by decide +kernel
theorem dL_law_940 : decode cL_law 940 = .ok (.aload_n 2, 1) := by decide +kernel
theorem dL_law_941 : decode cL_law 941 = .ok (.aload_n 0, 1) := by decide +kernel
theorem dL_law_942 : decode cL_law 942 = .ok (.iload 4, 2) := by decide +kernel
theorem dL_law_944 : decode cL_law 944 = .ok (.iconst 1, 1) := by decide +kernel
theorem dL_law_945 : decode cL_law 945 = .ok (.iadd, 1) := by decide +kernel
theorem dL_law_946 : decode cL_law 946 = .ok (.iaload, 1) := by decide +kernel
theorem dL_law_947 : decode cL_law 947 = .ok (.invokevirtual 106, 3) := by decide +kernel
theorem dL_law_950 : decode cL_law 950 = .ok (.pop, 1) := by decide +kernel
theorem dL_law_951 : decode cL_law 951 = .ok (.goto 658, 3) := by decide +kernel
theorem dL_law_954 : decode cL_law 954 = .ok (.aload_n 1, 1) := by decide +kernel
theorem dL_law_955 : decode cL_law 955 = .ok (.invokevirtual 107, 3) := by decide +kernel
theorem dL_law_958 : decode cL_law 958 = .ok (.pop, 1) := by decide +kernel
theorem dL_law_959 : decode cL_law 959 = .ok (.aload_n 2, 1) := by decide +kernel
theorem dL_law_960 : decode cL_law 960 = .ok (.invokevirtual 110, 3) := by decide +kernel
theorem dL_law_963 : decode cL_law 963 = .ok (.pop, 1) := by decide +kernel
theorem dL_law_964 : decode cL_law 964 = .ok (.goto 645, 3) := by decide +kernel
theorem dL_law_967 : decode cL_law 967 = .ok (.aload_n 1, 1) := by decide +kernel
theorem dL_law_968 : decode cL_law 968 = .ok (.aload_n 0, 1) := by decide +kernel
theorem dL_law_969 : decode cL_law 969 = .ok (.iload 4, 2) := by decide +kernel
theorem dL_law_971 : decode cL_law 971 = .ok (.iconst 1, 1) := by decide +kernel
theorem dL_law_972 : decode cL_law 972 = .ok (.iadd, 1) := by decide +kernel
theorem dL_law_973 : decode cL_law 973 = .ok (.iaload, 1) := by decide +kernel
theorem dL_law_974 : decode cL_law 974 = .ok (.aload_n 0, 1) := by decide +kernel
theorem dL_law_975 : decode cL_law 975 = .ok (.iload 4, 2) := by decide +kernel
theorem dL_law_977 : decode cL_law 977 = .ok (.iconst 2, 1) := by decide +kernel
theorem dL_law_978 : decode cL_law 978 = .ok (.iadd, 1) := by decide +kernel
theorem dL_law_979 : decode cL_law 979 = .ok (.iaload, 1) := by decide +kernel
theorem dL_law_980 : decode cL_law 980 = .ok (.invokevirtual 111, 3) := by decide +kernel
theorem dL_law_983 : decode cL_law 983 = .ok (.pop, 1) := by decide +kernel
theorem dL_law_984 : decode cL_law 984 = .ok (.aload_n 2, 1) := by decide +kernel
theorem dL_law_985 : decode cL_law 985 = .ok (.aload_n 0, 1) := by decide +kernel
theorem dL_law_986 : decode cL_law 986 = .ok (.iload 4, 2) := by decide +kernel
theorem dL_law_988 : decode cL_law 988 = .ok (.iconst 1, 1) := by decide +kernel
theorem dL_law_989 : decode cL_law 989 = .ok (.iadd, 1) := by decide +kernel
theorem dL_law_990 : decode cL_law 990 = .ok (.iaload, 1) := by decide +kernel
theorem dL_law_991 : decode cL_law 991 = .ok (.aload_n 0, 1) := by decide +kernel
theorem dL_law_992 : decode cL_law 992 = .ok (.iload 4, 2) := by decide +kernel
theorem dL_law_994 : decode cL_law 994 = .ok (.iconst 2, 1) := by decide +kernel
theorem dL_law_995 : decode cL_law 995 = .ok (.iadd, 1) := by decide +kernel
theorem dL_law_996 : decode cL_law 996 = .ok (.iaload, 1) := by decide +kernel
theorem dL_law_997 : decode cL_law 997 = .ok (.invokevirtual 114, 3) := by decide +kernel
theorem dL_law_1000 : decode cL_law 1000 = .ok (.pop, 1) := by decide +kernel
theorem dL_law_1001 : decode cL_law 1001 = .ok (.goto 608, 3) := by decide +kernel
theorem dL_law_1004 : decode cL_law 1004 = .ok (.aload_n 1, 1) := by decide +kernel
theorem dL_law_1005 : decode cL_law 1005 = .ok (.aload_n 0, 1) := by decide +kernel
theorem dL_law_1006 : decode cL_law 1006 = .ok (.iload 4, 2) := by decide +kernel
theorem dL_law_1008 : decode cL_law 1008 = .ok (.iconst 1, 1) := by decide +kernel
theorem dL_law_1009 : decode cL_law 1009 = .ok (.iadd, 1) := by decide +kernel
theorem dL_law_1010 : decode cL_law 1010 = .ok (.iaload, 1) := by decide +kernel
theorem dL_law_1011 : decode cL_law 1011 = .ok (.aload_n 0, 1) := by decide +kernel
theorem dL_law_1012 : decode cL_law 1012 = .ok (.iload 4, 2) := by decide +kernel
theorem dL_law_1014 : decode cL_law 1014 = .ok (.iconst 2, 1) := by decide +kernel
theorem dL_law_1015 : decode cL_law 1015 = .ok (.iadd, 1) := by decide +kernel
theorem dL_law_1016 : decode cL_law 1016 = .ok (.iaload, 1) := by decide +kernel
theorem dL_law_1017 : decode cL_law 1017 = .ok (.invokevirtual 115, 3) := by decide +kernel
theorem dL_law_1020 : decode cL_law 1020 = .ok (.pop, 1) := by decide +kernel
theorem dL_law_1021 : decode cL_law 1021 = .ok (.aload_n 2, 1) := by decide +kernel
theorem dL_law_1022 : decode cL_law 1022 = .ok (.aload_n 0, 1) := by decide +kernel
theorem dL_law_1023 : decode cL_law 1023 = .ok (.iload 4, 2) := by decide +kernel
theorem dL_law_1025 : decode cL_law 1025 = .ok (.iconst 1, 1) := by decide +kernel
theorem dL_law_1026 : decode cL_law 1026 = .ok (.iadd, 1) := by decide +kernel
theorem dL_law_1027 : decode cL_law 1027 = .ok (.iaload, 1) := by decide +kernel
theorem dL_law_1028 : decode cL_law 1028 = .ok (.aload_n 0, 1) := by decide +kernel
theorem dL_law_1029 : decode cL_law 1029 = .ok (.iload 4, 2) := by decide +kernel
theorem dL_law_1031 : decode cL_law 1031 = .ok (.iconst 2, 1) := by decide +kernel
theorem dL_law_1032 : decode cL_law 1032 = .ok (.iadd, 1) := by decide +kernel
theorem dL_law_1033 : decode cL_law 1033 = .ok (.iaload, 1) := by decide +kernel
theorem dL_law_1034 : decode cL_law 1034 = .ok (.invokevirtual 118, 3) := by decide +kernel
theorem dL_law_1037 : decode cL_law 1037 = .ok (.pop, 1) := by decide +kernel
theorem dL_law_1038 : decode cL_law 1038 = .ok (.goto 571, 3) := by decide +kernel
theorem dL_law_1041 : decode cL_law 1041 = .ok (.aload_n 1, 1) := by decide +kernel
theorem dL_law_1042 : decode cL_law 1042 = .ok (.aload_n 0, 1) := by decide +kernel
theorem dL_law_1043 : decode cL_law 1043 = .ok (.iload 4, 2) := by decide +kernel
theorem dL_law_1045 : decode cL_law 1045 = .ok (.iconst 1, 1) := by decide +kernel
theorem dL_law_1046 : decode cL_law 1046 = .ok (.iadd, 1) := by decide +kernel
theorem dL_law_1047 : decode cL_law 1047 = .ok (.iaload, 1) := by decide +kernel
theorem dL_law_1048 : decode cL_law 1048 = .ok (.aload_n 0, 1) := by decide +kernel
theorem dL_law_1049 : decode cL_law 1049 = .ok (.iload 4, 2) := by decide +kernel
theorem dL_law_1051 : decode cL_law 1051 = .ok (.iconst 2, 1) := by decide +kernel
theorem dL_law_1052 : decode cL_law 1052 = .ok (.iadd, 1) := by decide +kernel
theorem dL_law_1053 : decode cL_law 1053 = .ok (.iaload, 1) := by decide +kernel
theorem dL_law_1054 : decode cL_law 1054 = .ok (.aload_n 0, 1) := by decide +kernel
theorem dL_law_1055 : decode cL_law 1055 = .ok (.iload 4, 2) := by decide +kernel
theorem dL_law_1057 : decode cL_law 1057 = .ok (.iconst 3, 1) := by decide +kernel
theorem dL_law_1058 : decode cL_law 1058 = .ok (.iadd, 1) := by decide +kernel
theorem dL_law_1059 : decode cL_law 1059 = .ok (.iaload, 1) := by decide +kernel
theorem dL_law_1060 : decode cL_law 1060 = .ok (.invokevirtual 119, 3) := by decide +kernel
theorem dL_law_1063 : decode cL_law 1063 = .ok (.pop, 1) := by decide +kernel
theorem dL_law_1064 : decode cL_law 1064 = .ok (.aload_n 2, 1) := by decide +kernel
theorem dL_law_1065 : decode cL_law 1065 = .ok (.aload_n 0, 1) := by decide +kernel
theorem dL_law_1066 : decode cL_law 1066 = .ok (.iload 4, 2) := by decide +kernel
theorem dL_law_1068 : decode cL_law 1068 = .ok (.iconst 1, 1) := by decide +kernel
theorem dL_law_1069 : decode cL_law 1069 = .ok (.iadd, 1) := by decide +kernel
theorem dL_law_1070 : decode cL_law 1070 = .ok (.iaload, 1) := by decide +kernel
theorem dL_law_1071 : decode cL_law 1071 = .ok (.aload_n 0, 1) := by decide +kernel
theorem dL_law_1072 : decode cL_law 1072 = .ok (.iload 4, 2) := by decide +kernel
theorem dL_law_1074 : decode cL_law 1074 = .ok (.iconst 2, 1) := by decide +kernel
theorem dL_law_1075 : decode cL_law 1075 = .ok (.iadd, 1) := by decide +kernel
theorem dL_law_1076 : decode cL_law 1076 = .ok (.iaload, 1) := by decide +kernel
theorem dL_law_1077 : decode cL_law 1077 = .ok (.aload_n 0, 1) := by decide +kernel
theorem dL_law_1078 : decode cL_law 1078 = .ok (.iload 4, 2) := by decide +kernel
theorem dL_law_1080 : decode cL_law 1080 = .ok (.iconst 3, 1) := by decide +kernel
theorem dL_law_1081 : decode cL_law 1081 = .ok (.iadd, 1) := by decide +kernel
theorem dL_law_1082 : decode cL_law 1082 = .ok (.iaload, 1) := by decide +kernel
theorem dL_law_1083 : decode cL_law 1083 = .ok (.invokevirtual 122, 3) := by decide +kernel
theorem dL_law_1086 : decode cL_law 1086 = .ok (.pop, 1) := by decide +kernel
theorem dL_law_1087 : decode cL_law 1087 = .ok (.goto 522, 3) := by decide +kernel
theorem dL_law_1090 : decode cL_law 1090 = .ok (.aload_n 1, 1) := by decide +kernel
theorem dL_law_1091 : decode cL_law 1091 = .ok (.aload_n 0, 1) := by decide +kernel
theorem dL_law_1092 : decode cL_law 1092 = .ok (.iload 4, 2) := by decide +kernel
theorem dL_law_1094 : decode cL_law 1094 = .ok (.iconst 1, 1) := by decide +kernel
theorem dL_law_1095 : decode cL_law 1095 = .ok (.iadd, 1) := by decide +kernel
theorem dL_law_1096 : decode cL_law 1096 = .ok (.iaload, 1) := by decide +kernel
theorem dL_law_1097 : decode cL_law 1097 = .ok (.aload_n 0, 1) := by decide +kernel
theorem dL_law_1098 : decode cL_law 1098 = .ok (.iload 4, 2) := by decide +kernel
theorem dL_law_1100 : decode cL_law 1100 = .ok (.iconst 2, 1) := by decide +kernel
theorem dL_law_1101 : decode cL_law 1101 = .ok (.iadd, 1) := by decide +kernel
theorem dL_law_1102 : decode cL_law 1102 = .ok (.iaload, 1) := by decide +kernel
theorem dL_law_1103 : decode cL_law 1103 = .ok (.aload_n 0, 1) := by decide +kernel
theorem dL_law_1104 : decode cL_law 1104 = .ok (.iload 4, 2) := by decide +kernel
theorem dL_law_1106 : decode cL_law 1106 = .ok (.iconst 3, 1) := by decide +kernel
theorem dL_law_1107 : decode cL_law 1107 = .ok (.iadd, 1) := by decide +kernel
theorem dL_law_1108 : decode cL_law 1108 = .ok (.iaload, 1) := by decide +kernel
theorem dL_law_1109 : decode cL_law 1109 = .ok (.invokevirtual 123, 3) := by decide +kernel
theorem dL_law_1112 : decode cL_law 1112 = .ok (.pop, 1) := by decide +kernel
theorem dL_law_1113 : decode cL_law 1113 = .ok (.aload_n 2, 1) := by decide +kernel
theorem dL_law_1114 : decode cL_law 1114 = .ok (.aload_n 0, 1) := by decide +kernel
theorem dL_law_1115 : decode cL_law 1115 = .ok (.iload 4, 2) := by decide +kernel
theorem dL_law_1117 : decode cL_law 1117 = .ok (.iconst 1, 1) := by decide +kernel
theorem dL_law_1118 : decode cL_law 1118 = .ok (.iadd, 1) := by decide +kernel
theorem dL_law_1119 : decode cL_law 1119 = .ok (.iaload, 1) := by decide +kernel
theorem dL_law_1120 : decode cL_law 1120 = .ok (.aload_n 0, 1) := by decide +kernel
theorem dL_law_1121 : decode cL_law 1121 = .ok (.iload 4, 2) := by decide +kernel
theorem dL_law_1123 : decode cL_law 1123 = .ok (.iconst 2, 1) := by decide +kernel
theorem dL_law_1124 : decode cL_law 1124 = .ok (.iadd, 1) := by decide +kernel
theorem dL_law_1125 : decode cL_law 1125 = .ok (.iaload, 1) := by decide +kernel
theorem dL_law_1126 : decode cL_law 1126 = .ok (.aload_n 0, 1) := by decide +kernel
theorem dL_law_1127 : decode cL_law 1127 = .ok (.iload 4, 2) := by decide +kernel
theorem dL_law_1129 : decode cL_law 1129 = .ok (.iconst 3, 1) := by decide +kernel
theorem dL_law_1130 : decode cL_law 1130 = .ok (.iadd, 1) := by decide +kernel
theorem dL_law_1131 : decode cL_law 1131 = .ok (.iaload, 1) := by decide +kernel
theorem dL_law_1132 : decode cL_law 1132 = .ok (.invokevirtual 126, 3) := by decide +kernel
theorem dL_law_1135 : decode cL_law 1135 = .ok (.pop, 1) := by decide +kernel
theorem dL_law_1136 : decode cL_law 1136 = .ok (.goto 473, 3) := by decide +kernel
theorem dL_law_1139 : decode cL_law 1139 = .ok (.aload_n 1, 1) := by decide +kernel
theorem dL_law_1140 : decode cL_law 1140 = .ok (.aload_n 0, 1) := by decide +kernel
theorem dL_law_1141 : decode cL_law 1141 = .ok (.iload 4, 2) := by decide +kernel
theorem dL_law_1143 : decode cL_law 1143 = .ok (.iconst 1, 1) := by decide +kernel
theorem dL_law_1144 : decode cL_law 1144 = .ok (.iadd, 1) := by decide +kernel
theorem dL_law_1145 : decode cL_law 1145 = .ok (.iaload, 1) := by decide +kernel
theorem dL_law_1146 : decode cL_law 1146 = .ok (.aload_n 0, 1) := by decide +kernel
theorem dL_law_1147 : decode cL_law 1147 = .ok (.iload 4, 2) := by decide +kernel
theorem dL_law_1149 : decode cL_law 1149 = .ok (.iconst 2, 1) := by decide +kernel
theorem dL_law_1150 : decode cL_law 1150 = .ok (.iadd, 1) := by decide +kernel
theorem dL_law_1151 : decode cL_law 1151 = .ok (.iaload, 1) := by decide +kernel
theorem dL_law_1152 : decode cL_law 1152 = .ok (.aload_n 0, 1) := by decide +kernel
theorem dL_law_1153 : decode cL_law 1153 = .ok (.iload 4, 2) := by decide +kernel
theorem dL_law_1155 : decode cL_law 1155 = .ok (.iconst 3, 1) := by decide +kernel
theorem dL_law_1156 : decode cL_law 1156 = .ok (.iadd, 1) := by decide +kernel
theorem dL_law_1157 : decode cL_law 1157 = .ok (.iaload, 1) := by decide +kernel
theorem dL_law_1158 : decode cL_law 1158 = .ok (.invokevirtual 127, 3) := by decide +kernel
theorem dL_law_1161 : decode cL_law 1161 = .ok (.pop, 1) := by decide +kernel
theorem dL_law_1162 : decode cL_law 1162 = .ok (.aload_n 2, 1) := by decide +kernel
theorem dL_law_1163 : decode cL_law 1163 = .ok (.aload_n 0, 1) := by decide +kernel
theorem dL_law_1164 : decode cL_law 1164 = .ok (.iload 4, 2) := by decide +kernel
theorem dL_law_1166 : decode cL_law 1166 = .ok (.iconst 1, 1) := by decide +kernel
theorem dL_law_1167 : decode cL_law 1167 = .ok (.iadd, 1) := by decide +kernel
theorem dL_law_1168 : decode cL_law 1168 = .ok (.iaload, 1) := by decide +kernel
theorem dL_law_1169 : decode cL_law 1169 = .ok (.aload_n 0, 1) := by decide +kernel
theorem dL_law_1170 : decode cL_law 1170 = .ok (.iload 4, 2) := by decide +kernel
theorem dL_law_1172 : decode cL_law 1172 = .ok (.iconst 2, 1) := by decide +kernel
theorem dL_law_1173 : decode cL_law 1173 = .ok (.iadd, 1) := by decide +kernel
theorem dL_law_1174 : decode cL_law 1174 = .ok (.iaload, 1) := by decide +kernel
theorem dL_law_1175 : decode cL_law 1175 = .ok (.aload_n 0, 1) := by decide +kernel
theorem dL_law_1176 : decode cL_law 1176 = .ok (.iload 4, 2) := by decide +kernel
theorem dL_law_1178 : decode cL_law 1178 = .ok (.iconst 3, 1) := by decide +kernel
theorem dL_law_1179 : decode cL_law 1179 = .ok (.iadd, 1) := by decide +kernel
theorem dL_law_1180 : decode cL_law 1180 = .ok (.iaload, 1) := by decide +kernel
theorem dL_law_1181 : decode cL_law 1181 = .ok (.invokevirtual 130, 3) := by decide +kernel
theorem dL_law_1184 : decode cL_law 1184 = .ok (.pop, 1) := by decide +kernel
theorem dL_law_1185 : decode cL_law 1185 = .ok (.goto 424, 3) := by decide +kernel
theorem dL_law_1188 : decode cL_law 1188 = .ok (.aload_n 1, 1) := by decide +kernel
theorem dL_law_1189 : decode cL_law 1189 = .ok (.aload_n 0, 1) := by decide +kernel
theorem dL_law_1190 : decode cL_law 1190 = .ok (.iload 4, 2) := by decide +kernel
theorem dL_law_1192 : decode cL_law 1192 = .ok (.iconst 1, 1) := by decide +kernel
theorem dL_law_1193 : decode cL_law 1193 = .ok (.iadd, 1) := by decide +kernel
theorem dL_law_1194 : decode cL_law 1194 = .ok (.iaload, 1) := by decide +kernel
theorem dL_law_1195 : decode cL_law 1195 = .ok (.aload_n 0, 1) := by decide +kernel
theorem dL_law_1196 : decode cL_law 1196 = .ok (.iload 4, 2) := by decide +kernel
theorem dL_law_1198 : decode cL_law 1198 = .ok (.iconst 2, 1) := by decide +kernel
theorem dL_law_1199 : decode cL_law 1199 = .ok (.iadd, 1) := by decide +kernel
theorem dL_law_1200 : decode cL_law 1200 = .ok (.iaload, 1) := by decide +kernel
theorem dL_law_1201 : decode cL_law 1201 = .ok (.invokevirtual 131, 3) := by decide +kernel
theorem dL_law_1204 : decode cL_law 1204 = .ok (.pop, 1) := by decide +kernel
theorem dL_law_1205 : decode cL_law 1205 = .ok (.aload_n 2, 1) := by decide +kernel
theorem dL_law_1206 : decode cL_law 1206 = .ok (.aload_n 0, 1) := by decide +kernel
theorem dL_law_1207 : decode cL_law 1207 = .ok (.iload 4, 2) := by decide +kernel
theorem dL_law_1209 : decode cL_law 1209 = .ok (.iconst 1, 1) := by decide +kernel
theorem dL_law_1210 : decode cL_law 1210 = .ok (.iadd, 1) := by decide +kernel
theorem dL_law_1211 : decode cL_law 1211 = .ok (.iaload, 1) := by decide +kernel
theorem dL_law_1212 : decode cL_law 1212 = .ok (.aload_n 0, 1) := by decide +kernel
theorem dL_law_1213 : decode cL_law 1213 = .ok (.iload 4, 2) := by decide +kernel
theorem dL_law_1215 : decode cL_law 1215 = .ok (.iconst 2, 1) := by decide +kernel
theorem dL_law_1216 : decode cL_law 1216 = .ok (.iadd, 1) := by decide +kernel
theorem dL_law_1217 : decode cL_law 1217 = .ok (.iaload, 1) := by decide +kernel
theorem dL_law_1218 : decode cL_law 1218 = .ok (.invokevirtual 134, 3) := by decide +kernel
theorem dL_law_1221 : decode cL_law 1221 = .ok (.pop, 1) := by decide +kernel
theorem dL_law_1222 : decode cL_law 1222 = .ok (.goto 387, 3) := by decide +kernel
theorem dL_law_1225 : decode cL_law 1225 = .ok (.aload_n 1, 1) := by decide +kernel
theorem dL_law_1226 : decode cL_law 1226 = .ok (.aload_n 0, 1) := by decide +kernel
theorem dL_law_1227 : decode cL_law 1227 = .ok (.iload 4, 2) := by decide +kernel
theorem dL_law_1229 : decode cL_law 1229 = .ok (.iconst 1, 1) := by decide +kernel
theorem dL_law_1230 : decode cL_law 1230 = .ok (.iadd, 1) := by decide +kernel
theorem dL_law_1231 : decode cL_law 1231 = .ok (.iaload, 1) := by decide +kernel
theorem dL_law_1232 : decode cL_law 1232 = .ok (.aload_n 0, 1) := by decide +kernel
theorem dL_law_1233 : decode cL_law 1233 = .ok (.iload 4, 2) := by decide +kernel
theorem dL_law_1235 : decode cL_law 1235 = .ok (.iconst 2, 1) := by decide +kernel
theorem dL_law_1236 : decode cL_law 1236 = .ok (.iadd, 1) := by decide +kernel
theorem dL_law_1237 : decode cL_law 1237 = .ok (.iaload, 1) := by decide +kernel
theorem dL_law_1238 : decode cL_law 1238 = .ok (.invokevirtual 135, 3) := by decide +kernel
theorem dL_law_1241 : decode cL_law 1241 = .ok (.pop, 1) := by decide +kernel
theorem dL_law_1242 : decode cL_law 1242 = .ok (.aload_n 2, 1) := by decide +kernel
theorem dL_law_1243 : decode cL_law 1243 = .ok (.aload_n 0, 1) := by decide +kernel
theorem dL_law_1244 : decode cL_law 1244 = .ok (.iload 4, 2) := by decide +kernel
theorem dL_law_1246 : decode cL_law 1246 = .ok (.iconst 1, 1) := by decide +kernel
theorem dL_law_1247 : decode cL_law 1247 = .ok (.iadd, 1) := by decide +kernel
theorem dL_law_1248 : decode cL_law 1248 = .ok (.iaload, 1) := by decide +kernel
theorem dL_law_1249 : decode cL_law 1249 = .ok (.aload_n 0, 1) := by decide +kernel
theorem dL_law_1250 : decode cL_law 1250 = .ok (.iload 4, 2) := by decide +kernel
theorem dL_law_1252 : decode cL_law 1252 = .ok (.iconst 2, 1) := by decide +kernel
theorem dL_law_1253 : decode cL_law 1253 = .ok (.iadd, 1) := by decide +kernel
theorem dL_law_1254 : decode cL_law 1254 = .ok (.iaload, 1) := by decide +kernel
theorem dL_law_1255 : decode cL_law 1255 = .ok (.invokevirtual 138, 3) := by decide +kernel
theorem dL_law_1258 : decode cL_law 1258 = .ok (.pop, 1) := by decide +kernel
theorem dL_law_1259 : decode cL_law 1259 = .ok (.goto 350, 3) := by decide +kernel
theorem dL_law_1262 : decode cL_law 1262 = .ok (.aload_n 1, 1) := by decide +kernel
theorem dL_law_1263 : decode cL_law 1263 = .ok (.aload_n 0, 1) := by decide +kernel
theorem dL_law_1264 : decode cL_law 1264 = .ok (.iload 4, 2) := by decide +kernel
theorem dL_law_1266 : decode cL_law 1266 = .ok (.iconst 1, 1) := by decide +kernel
theorem dL_law_1267 : decode cL_law 1267 = .ok (.iadd, 1) := by decide +kernel
theorem dL_law_1268 : decode cL_law 1268 = .ok (.iaload, 1) := by decide +kernel
theorem dL_law_1269 : decode cL_law 1269 = .ok (.aload_n 0, 1) := by decide +kernel
theorem dL_law_1270 : decode cL_law 1270 = .ok (.iload 4, 2) := by decide +kernel
theorem dL_law_1272 : decode cL_law 1272 = .ok (.iconst 2, 1) := by decide +kernel
theorem dL_law_1273 : decode cL_law 1273 = .ok (.iadd, 1) := by decide +kernel
theorem dL_law_1274 : decode cL_law 1274 = .ok (.iaload, 1) := by decide +kernel
theorem dL_law_1275 : decode cL_law 1275 = .ok (.aload_n 0, 1) := by decide +kernel
theorem dL_law_1276 : decode cL_law 1276 = .ok (.iload 4, 2) := by decide +kernel
theorem dL_law_1278 : decode cL_law 1278 = .ok (.iconst 3, 1) := by decide +kernel
theorem dL_law_1279 : decode cL_law 1279 = .ok (.iadd, 1) := by decide +kernel
theorem dL_law_1280 : decode cL_law 1280 = .ok (.iaload, 1) := by decide +kernel
theorem dL_law_1281 : decode cL_law 1281 = .ok (.aload_n 0, 1) := by decide +kernel
theorem dL_law_1282 : decode cL_law 1282 = .ok (.iload 4, 2) := by decide +kernel
theorem dL_law_1284 : decode cL_law 1284 = .ok (.iconst 4, 1) := by decide +kernel
theorem dL_law_1285 : decode cL_law 1285 = .ok (.iadd, 1) := by decide +kernel
theorem dL_law_1286 : decode cL_law 1286 = .ok (.iaload, 1) := by decide +kernel
theorem dL_law_1287 : decode cL_law 1287 = .ok (.invokevirtual 139, 3) := by decide +kernel
theorem dL_law_1290 : decode cL_law 1290 = .ok (.pop, 1) := by decide +kernel
theorem dL_law_1291 : decode cL_law 1291 = .ok (.aload_n 2, 1) := by decide +kernel
theorem dL_law_1292 : decode cL_law 1292 = .ok (.aload_n 0, 1) := by decide +kernel
theorem dL_law_1293 : decode cL_law 1293 = .ok (.iload 4, 2) := by decide +kernel
theorem dL_law_1295 : decode cL_law 1295 = .ok (.iconst 1, 1) := by decide +kernel
theorem dL_law_1296 : decode cL_law 1296 = .ok (.iadd, 1) := by decide +kernel
theorem dL_law_1297 : decode cL_law 1297 = .ok (.iaload, 1) := by decide +kernel
theorem dL_law_1298 : decode cL_law 1298 = .ok (.aload_n 0, 1) := by decide +kernel
theorem dL_law_1299 : decode cL_law 1299 = .ok (.iload 4, 2) := by decide +kernel
theorem dL_law_1301 : decode cL_law 1301 = .ok (.iconst 2, 1) := by decide +kernel
theorem dL_law_1302 : decode cL_law 1302 = .ok (.iadd, 1) := by decide +kernel
theorem dL_law_1303 : decode cL_law 1303 = .ok (.iaload, 1) := by decide +kernel
theorem dL_law_1304 : decode cL_law 1304 = .ok (.aload_n 0, 1) := by decide +kernel
theorem dL_law_1305 : decode cL_law 1305 = .ok (.iload 4, 2) := by decide +kernel
theorem dL_law_1307 : decode cL_law 1307 = .ok (.iconst 3, 1) := by decide +kernel
theorem dL_law_1308 : decode cL_law 1308 = .ok (.iadd, 1) := by decide +kernel
theorem dL_law_1309 : decode cL_law 1309 = .ok (.iaload, 1) := by decide +kernel
theorem dL_law_1310 : decode cL_law 1310 = .ok (.aload_n 0, 1) := by decide +kernel
theorem dL_law_1311 : decode cL_law 1311 = .ok (.iload 4, 2) := by decide +kernel
theorem dL_law_1313 : decode cL_law 1313 = .ok (.iconst 4, 1) := by decide +kernel
theorem dL_law_1314 : decode cL_law 1314 = .ok (.iadd, 1) := by decide +kernel
theorem dL_law_1315 : decode cL_law 1315 = .ok (.iaload, 1) := by decide +kernel
theorem dL_law_1316 : decode cL_law 1316 = .ok (.invokevirtual 142, 3) := by decide +kernel
theorem dL_law_1319 : decode cL_law 1319 = .ok (.pop, 1) := by decide +kernel
theorem dL_law_1320 : decode cL_law 1320 = .ok (.goto 289, 3) := by decide +kernel
theorem dL_law_1323 : decode cL_law 1323 = .ok (.aload_n 1, 1) := by decide +kernel
theorem dL_law_1324 : decode cL_law 1324 = .ok (.aload_n 0, 1) := by decide +kernel
theorem dL_law_1325 : decode cL_law 1325 = .ok (.iload 4, 2) := by decide +kernel
theorem dL_law_1327 : decode cL_law 1327 = .ok (.iconst 1, 1) := by decide +kernel
theorem dL_law_1328 : decode cL_law 1328 = .ok (.iadd, 1) := by decide +kernel
theorem dL_law_1329 : decode cL_law 1329 = .ok (.iaload, 1) := by decide +kernel
theorem dL_law_1330 : decode cL_law 1330 = .ok (.invokevirtual 143, 3) := by decide +kernel
theorem dL_law_1333 : decode cL_law 1333 = .ok (.pop, 1) := by decide +kernel
theorem dL_law_1334 : decode cL_law 1334 = .ok (.aload_n 2, 1) := by decide +kernel
theorem dL_law_1335 : decode cL_law 1335 = .ok (.aload_n 0, 1) := by decide +kernel
theorem dL_law_1336 : decode cL_law 1336 = .ok (.iload 4, 2) := by decide +kernel
theorem dL_law_1338 : decode cL_law 1338 = .ok (.iconst 1, 1) := by decide +kernel
theorem dL_law_1339 : decode cL_law 1339 = .ok (.iadd, 1) := by decide +kernel
theorem dL_law_1340 : decode cL_law 1340 = .ok (.iaload, 1) := by decide +kernel
theorem dL_law_1341 : decode cL_law 1341 = .ok (.invokevirtual 146, 3) := by decide +kernel
theorem dL_law_1344 : decode cL_law 1344 = .ok (.pop, 1) := by decide +kernel
theorem dL_law_1345 : decode cL_law 1345 = .ok (.goto 264, 3) := by decide +kernel
theorem dL_law_1348 : decode cL_law 1348 = .ok (.aload_n 1, 1) := by decide +kernel
theorem dL_law_1349 : decode cL_law 1349 = .ok (.aload_n 0, 1) := by decide +kernel
theorem dL_law_1350 : decode cL_law 1350 = .ok (.iload 4, 2) := by decide +kernel
theorem dL_law_1352 : decode cL_law 1352 = .ok (.iconst 1, 1) := by decide +kernel
theorem dL_law_1353 : decode cL_law 1353 = .ok (.iadd, 1) := by decide +kernel
theorem dL_law_1354 : decode cL_law 1354 = .ok (.iaload, 1) := by decide +kernel
theorem dL_law_1355 : decode cL_law 1355 = .ok (.aload_n 0, 1) := by decide +kernel
theorem dL_law_1356 : decode cL_law 1356 = .ok (.iload 4, 2) := by decide +kernel
theorem dL_law_1358 : decode cL_law 1358 = .ok (.iconst 2, 1) := by decide +kernel
theorem dL_law_1359 : decode cL_law 1359 = .ok (.iadd, 1) := by decide +kernel
theorem dL_law_1360 : decode cL_law 1360 = .ok (.iaload, 1) := by decide +kernel
theorem dL_law_1361 : decode cL_law 1361 = .ok (.aload_n 0, 1) := by decide +kernel
theorem dL_law_1362 : decode cL_law 1362 = .ok (.iload 4, 2) := by decide +kernel
theorem dL_law_1364 : decode cL_law 1364 = .ok (.iconst 3, 1) := by decide +kernel
theorem dL_law_1365 : decode cL_law 1365 = .ok (.iadd, 1) := by decide +kernel
theorem dL_law_1366 : decode cL_law 1366 = .ok (.iaload, 1) := by decide +kernel
theorem dL_law_1367 : decode cL_law 1367 = .ok (.invokevirtual 147, 3) := by decide +kernel
theorem dL_law_1370 : decode cL_law 1370 = .ok (.pop, 1) := by decide +kernel
theorem dL_law_1371 : decode cL_law 1371 = .ok (.aload_n 2, 1) := by decide +kernel
theorem dL_law_1372 : decode cL_law 1372 = .ok (.aload_n 0, 1) := by decide +kernel
theorem dL_law_1373 : decode cL_law 1373 = .ok (.iload 4, 2) := by decide +kernel
theorem dL_law_1375 : decode cL_law 1375 = .ok (.iconst 1, 1) := by decide +kernel
theorem dL_law_1376 : decode cL_law 1376 = .ok (.iadd, 1) := by decide +kernel
theorem dL_law_1377 : decode cL_law 1377 = .ok (.iaload, 1) := by decide +kernel
theorem dL_law_1378 : decode cL_law 1378 = .ok (.aload_n 0, 1) := by decide +kernel
theorem dL_law_1379 : decode cL_law 1379 = .ok (.iload 4, 2) := by decide +kernel
theorem dL_law_1381 : decode cL_law 1381 = .ok (.iconst 2, 1) := by decide +kernel
theorem dL_law_1382 : decode cL_law 1382 = .ok (.iadd, 1) := by decide +kernel
theorem dL_law_1383 : decode cL_law 1383 = .ok (.iaload, 1) := by decide +kernel
theorem dL_law_1384 : decode cL_law 1384 = .ok (.aload_n 0, 1) := by decide +kernel
theorem dL_law_1385 : decode cL_law 1385 = .ok (.iload 4, 2) := by decide +kernel
theorem dL_law_1387 : decode cL_law 1387 = .ok (.iconst 3, 1) := by decide +kernel
theorem dL_law_1388 : decode cL_law 1388 = .ok (.iadd, 1) := by decide +kernel
theorem dL_law_1389 : decode cL_law 1389 = .ok (.iaload, 1) := by decide +kernel
theorem dL_law_1390 : decode cL_law 1390 = .ok (.invokevirtual 150, 3) := by decide +kernel
theorem dL_law_1393 : decode cL_law 1393 = .ok (.pop, 1) := by decide +kernel
theorem dL_law_1394 : decode cL_law 1394 = .ok (.goto 215, 3) := by decide +kernel
theorem dL_law_1397 : decode cL_law 1397 = .ok (.aload_n 1, 1) := by decide +kernel
theorem dL_law_1398 : decode cL_law 1398 = .ok (.aload_n 0, 1) := by decide +kernel
theorem dL_law_1399 : decode cL_law 1399 = .ok (.iload 4, 2) := by decide +kernel
theorem dL_law_1401 : decode cL_law 1401 = .ok (.iconst 1, 1) := by decide +kernel
theorem dL_law_1402 : decode cL_law 1402 = .ok (.iadd, 1) := by decide +kernel
theorem dL_law_1403 : decode cL_law 1403 = .ok (.iaload, 1) := by decide +kernel
theorem dL_law_1404 : decode cL_law 1404 = .ok (.aload_n 0, 1) := by decide +kernel
theorem dL_law_1405 : decode cL_law 1405 = .ok (.iload 4, 2) := by decide +kernel
theorem dL_law_1407 : decode cL_law 1407 = .ok (.iconst 2, 1) := by decide +kernel
theorem dL_law_1408 : decode cL_law 1408 = .ok (.iadd, 1) := by decide +kernel
theorem dL_law_1409 : decode cL_law 1409 = .ok (.iaload, 1) := by decide +kernel
theorem dL_law_1410 : decode cL_law 1410 = .ok (.aload_n 0, 1) := by decide +kernel
theorem dL_law_1411 : decode cL_law 1411 = .ok (.iload 4, 2) := by decide +kernel
theorem dL_law_1413 : decode cL_law 1413 = .ok (.iconst 3, 1) := by decide +kernel
theorem dL_law_1414 : decode cL_law 1414 = .ok (.iadd, 1) := by decide +kernel
theorem dL_law_1415 : decode cL_law 1415 = .ok (.iaload, 1) := by decide +kernel
theorem dL_law_1416 : decode cL_law 1416 = .ok (.invokevirtual 151, 3) := by decide +kernel
theorem dL_law_1419 : decode cL_law 1419 = .ok (.pop, 1) := by decide +kernel
theorem dL_law_1420 : decode cL_law 1420 = .ok (.aload_n 2, 1) := by decide +kernel
theorem dL_law_1421 : decode cL_law 1421 = .ok (.aload_n 0, 1) := by decide +kernel
theorem dL_law_1422 : decode cL_law 1422 = .ok (.iload 4, 2) := by decide +kernel
theorem dL_law_1424 : decode cL_law 1424 = .ok (.iconst 1, 1) := by decide +kernel
theorem dL_law_1425 : decode cL_law 1425 = .ok (.iadd, 1) := by decide +kernel
theorem dL_law_1426 : decode cL_law 1426 = .ok (.iaload, 1) := by decide +kernel
theorem dL_law_1427 : decode cL_law 1427 = .ok (.aload_n 0, 1) := by decide +kernel
theorem dL_law_1428 : decode cL_law 1428 = .ok (.iload 4, 2) := by decide +kernel
theorem dL_law_1430 : decode cL_law 1430 = .ok (.iconst 2, 1) := by decide +kernel
theorem dL_law_1431 : decode cL_law 1431 = .ok (.iadd, 1) := by decide +kernel
theorem dL_law_1432 : decode cL_law 1432 = .ok (.iaload, 1) := by decide +kernel
theorem dL_law_1433 : decode cL_law 1433 = .ok (.aload_n 0, 1) := by decide +kernel
theorem dL_law_1434 : decode cL_law 1434 = .ok (.iload 4, 2) := by decide +kernel
theorem dL_law_1436 : decode cL_law 1436 = .ok (.iconst 3, 1) := by decide +kernel
theorem dL_law_1437 : decode cL_law 1437 = .ok (.iadd, 1) := by decide +kernel
theorem dL_law_1438 : decode cL_law 1438 = .ok (.iaload, 1) := by decide +kernel
theorem dL_law_1439 : decode cL_law 1439 = .ok (.invokevirtual 154, 3) := by decide +kernel
theorem dL_law_1442 : decode cL_law 1442 = .ok (.pop, 1) := by decide +kernel
theorem dL_law_1443 : decode cL_law 1443 = .ok (.goto 166, 3) := by decide +kernel
theorem dL_law_1446 : decode cL_law 1446 = .ok (.aload_n 1, 1) := by decide +kernel
theorem dL_law_1447 : decode cL_law 1447 = .ok (.aload_n 0, 1) := by decide +kernel
theorem dL_law_1448 : decode cL_law 1448 = .ok (.iload 4, 2) := by decide +kernel
theorem dL_law_1450 : decode cL_law 1450 = .ok (.iconst 1, 1) := by decide +kernel
theorem dL_law_1451 : decode cL_law 1451 = .ok (.iadd, 1) := by decide +kernel
theorem dL_law_1452 : decode cL_law 1452 = .ok (.iaload, 1) := by decide +kernel
theorem dL_law_1453 : decode cL_law 1453 = .ok (.aload_n 0, 1) := by decide +kernel
theorem dL_law_1454 : decode cL_law 1454 = .ok (.iload 4, 2) := by decide +kernel
theorem dL_law_1456 : decode cL_law 1456 = .ok (.iconst 2, 1) := by decide +kernel
theorem dL_law_1457 : decode cL_law 1457 = .ok (.iadd, 1) := by decide +kernel
theorem dL_law_1458 : decode cL_law 1458 = .ok (.iaload, 1) := by decide +kernel
theorem dL_law_1459 : decode cL_law 1459 = .ok (.invokevirtual 155, 3) := by decide +kernel
theorem dL_law_1462 : decode cL_law 1462 = .ok (.pop, 1) := by decide +kernel
theorem dL_law_1463 : decode cL_law 1463 = .ok (.aload_n 2, 1) := by decide +kernel
theorem dL_law_1464 : decode cL_law 1464 = .ok (.aload_n 0, 1) := by decide +kernel
theorem dL_law_1465 : decode cL_law 1465 = .ok (.iload 4, 2) := by decide +kernel
theorem dL_law_1467 : decode cL_law 1467 = .ok (.iconst 1, 1) := by decide +kernel
theorem dL_law_1468 : decode cL_law 1468 = .ok (.iadd, 1) := by decide +kernel
theorem dL_law_1469 : decode cL_law 1469 = .ok (.iaload, 1) := by decide +kernel
theorem dL_law_1470 : decode cL_law 1470 = .ok (.aload_n 0, 1) := by decide +kernel
theorem dL_law_1471 : decode cL_law 1471 = .ok (.iload 4, 2) := by decide +kernel
theorem dL_law_1473 : decode cL_law 1473 = .ok (.iconst 2, 1) := by decide +kernel
theorem dL_law_1474 : decode cL_law 1474 = .ok (.iadd, 1) := by decide +kernel
theorem dL_law_1475 : decode cL_law 1475 = .ok (.iaload, 1) := by decide +kernel
theorem dL_law_1476 : decode cL_law 1476 = .ok (.invokevirtual 158, 3) := by decide +kernel
theorem dL_law_1479 : decode cL_law 1479 = .ok (.pop, 1) := by decide +kernel
theorem dL_law_1480 : decode cL_law 1480 = .ok (.goto 129, 3) := by decide +kernel
theorem dL_law_1483 : decode cL_law 1483 = .ok (.aload_n 1, 1) := by decide +kernel
theorem dL_law_1484 : decode cL_law 1484 = .ok (.aload_n 0, 1) := by decide +kernel
theorem dL_law_1485 : decode cL_law 1485 = .ok (.iload 4, 2) := by decide +kernel
theorem dL_law_1487 : decode cL_law 1487 = .ok (.iconst 1, 1) := by decide +kernel
theorem dL_law_1488 : decode cL_law 1488 = .ok (.iadd, 1) := by decide +kernel
theorem dL_law_1489 : decode cL_law 1489 = .ok (.iaload, 1) := by decide +kernel
theorem dL_law_1490 : decode cL_law 1490 = .ok (.invokevirtual 159, 3) := by decide +kernel
theorem dL_law_1493 : decode cL_law 1493 = .ok (.pop, 1) := by decide +kernel
theorem dL_law_1494 : decode cL_law 1494 = .ok (.aload_n 2, 1) := by decide +kernel
theorem dL_law_1495 : decode cL_law 1495 = .ok (.aload_n 0, 1) := by decide +kernel
theorem dL_law_1496 : decode cL_law 1496 = .ok (.iload 4, 2) := by decide +kernel
theorem dL_law_1498 : decode cL_law 1498 = .ok (.iconst 1, 1) := by decide +kernel
theorem dL_law_1499 : decode cL_law 1499 = .ok (.iadd, 1) := by decide +kernel
theorem dL_law_1500 : decode cL_law 1500 = .ok (.iaload, 1) := by decide +kernel
theorem dL_law_1501 : decode cL_law 1501 = .ok (.invokevirtual 162, 3) := by decide +kernel
theorem dL_law_1504 : decode cL_law 1504 = .ok (.pop, 1) := by decide +kernel
theorem dL_law_1505 : decode cL_law 1505 = .ok (.goto 104, 3) := by decide +kernel
theorem dL_law_1508 : decode cL_law 1508 = .ok (.aload_n 1, 1) := by decide +kernel
theorem dL_law_1509 : decode cL_law 1509 = .ok (.invokevirtual 163, 3) := by decide +kernel
theorem dL_law_1512 : decode cL_law 1512 = .ok (.pop, 1) := by decide +kernel
theorem dL_law_1513 : decode cL_law 1513 = .ok (.aload_n 2, 1) := by decide +kernel
theorem dL_law_1514 : decode cL_law 1514 = .ok (.invokevirtual 166, 3) := by decide +kernel
theorem dL_law_1517 : decode cL_law 1517 = .ok (.pop, 1) := by decide +kernel
theorem dL_law_1518 : decode cL_law 1518 = .ok (.goto 91, 3) := by decide +kernel
theorem dL_law_1521 : decode cL_law 1521 = .ok (.aload_n 1, 1) := by decide +kernel
theorem dL_law_1522 : decode cL_law 1522 = .ok (.aload_n 0, 1) := by decide +kernel
theorem dL_law_1523 : decode cL_law 1523 = .ok (.iload 4, 2) := by decide +kernel
theorem dL_law_1525 : decode cL_law 1525 = .ok (.iconst 1, 1) := by decide +kernel
theorem dL_law_1526 : decode cL_law 1526 = .ok (.iadd, 1) := by decide +kernel
theorem dL_law_1527 : decode cL_law 1527 = .ok (.iaload, 1) := by decide +kernel
theorem dL_law_1528 : decode cL_law 1528 = .ok (.aload_n 0, 1) := by decide +kernel
theorem dL_law_1529 : decode cL_law 1529 = .ok (.iload 4, 2) := by decide +kernel
theorem dL_law_1531 : decode cL_law 1531 = .ok (.iconst 2, 1) := by decide +kernel
theorem dL_law_1532 : decode cL_law 1532 = .ok (.iadd, 1) := by decide +kernel
theorem dL_law_1533 : decode cL_law 1533 = .ok (.iaload, 1) := by decide +kernel
theorem dL_law_1534 : decode cL_law 1534 = .ok (.invokevirtual 167, 3) := by decide +kernel
theorem dL_law_1537 : decode cL_law 1537 = .ok (.pop, 1) := by decide +kernel
theorem dL_law_1538 : decode cL_law 1538 = .ok (.aload_n 2, 1) := by decide +kernel
theorem dL_law_1539 : decode cL_law 1539 = .ok (.aload_n 0, 1) := by decide +kernel
theorem dL_law_1540 : decode cL_law 1540 = .ok (.iload 4, 2) := by decide +kernel
theorem dL_law_1542 : decode cL_law 1542 = .ok (.iconst 1, 1) := by decide +kernel
theorem dL_law_1543 : decode cL_law 1543 = .ok (.iadd, 1) := by decide +kernel
theorem dL_law_1544 : decode cL_law 1544 = .ok (.iaload, 1) := by decide +kernel
theorem dL_law_1545 : decode cL_law 1545 = .ok (.aload_n 0, 1) := by decide +kernel
theorem dL_law_1546 : decode cL_law 1546 = .ok (.iload 4, 2) := by decide +kernel
theorem dL_law_1548 : decode cL_law 1548 = .ok (.iconst 2, 1) := by decide +kernel
theorem dL_law_1549 : decode cL_law 1549 = .ok (.iadd, 1) := by decide +kernel
theorem dL_law_1550 : decode cL_law 1550 = .ok (.iaload, 1) := by decide +kernel
theorem dL_law_1551 : decode cL_law 1551 = .ok (.invokevirtual 170, 3) := by decide +kernel
theorem dL_law_1554 : decode cL_law 1554 = .ok (.pop, 1) := by decide +kernel
theorem dL_law_1555 : decode cL_law 1555 = .ok (.goto 54, 3) := by decide +kernel
theorem dL_law_1558 : decode cL_law 1558 = .ok (.aload_n 1, 1) := by decide +kernel
theorem dL_law_1559 : decode cL_law 1559 = .ok (.invokevirtual 171, 3) := by decide +kernel
theorem dL_law_1562 : decode cL_law 1562 = .ok (.pop, 1) := by decide +kernel
theorem dL_law_1563 : decode cL_law 1563 = .ok (.aload_n 2, 1) := by decide +kernel
theorem dL_law_1564 : decode cL_law 1564 = .ok (.invokevirtual 174, 3) := by decide +kernel
theorem dL_law_1567 : decode cL_law 1567 = .ok (.pop, 1) := by decide +kernel
theorem dL_law_1568 : decode cL_law 1568 = .ok (.goto 41, 3) := by decide +kernel
theorem dL_law_1571 : decode cL_law 1571 = .ok (.aload_n 1, 1) := by decide +kernel
theorem dL_law_1572 : decode cL_law 1572 = .ok (.invokevirtual 175, 3) := by decide +kernel
theorem dL_law_1575 : decode cL_law 1575 = .ok (.pop, 1) := by decide +kernel
theorem dL_law_1576 : decode cL_law 1576 = .ok (.aload_n 2, 1) := by decide +kernel
theorem dL_law_1577 : decode cL_law 1577 = .ok (.invokevirtual 178, 3) := by decide +kernel
theorem dL_law_1580 : decode cL_law 1580 = .ok (.pop, 1) := by decide +kernel
theorem dL_law_1581 : decode cL_law 1581 = .ok (.goto 28, 3) := by decide +kernel
theorem dL_law_1584 : decode cL_law 1584 = .ok (.aload_n 1, 1) := by decide +kernel
theorem dL_law_1585 : decode cL_law 1585 = .ok (.aload_n 0, 1) := by decide +kernel
theorem dL_law_1586 : decode cL_law 1586 = .ok (.iload 4, 2) := by decide +kernel
theorem dL_law_1588 : decode cL_law 1588 = .ok (.iconst 1, 1) := by decide +kernel
theorem dL_law_1589 : decode cL_law 1589 = .ok (.iadd, 1) := by decide +kernel
theorem dL_law_1590 : decode cL_law 1590 = .ok (.iaload, 1) := by decide +kernel
theorem dL_law_1591 : decode cL_law 1591 = .ok (.invokevirtual 179, 3) := by decide +kernel
theorem dL_law_1594 : decode cL_law 1594 = .ok (.pop, 1) := by decide +kernel
theorem dL_law_1595 : decode cL_law 1595 = .ok (.aload_n 2, 1) := by decide +kernel
theorem dL_law_1596 : decode cL_law 1596 = .ok (.aload_n 0, 1) := by decide +kernel
theorem dL_law_1597 : decode cL_law 1597 = .ok (.iload 4, 2) := by decide +kernel
theorem dL_law_1599 : decode cL_law 1599 = .ok (.iconst 1, 1) := by decide +kernel
theorem dL_law_1600 : decode cL_law 1600 = .ok (.iadd, 1) := by decide +kernel
theorem dL_law_1601 : decode cL_law 1601 = .ok (.iaload, 1) := by decide +kernel
theorem dL_law_1602 : decode cL_law 1602 = .ok (.invokevirtual 182, 3) := by decide +kernel
theorem dL_law_1605 : decode cL_law 1605 = .ok (.pop, 1) := by decide +kernel
theorem dL_law_1606 : decode cL_law 1606 = .ok (.goto 3, 3) := by decide +kernel
theorem dL_law_1609 : decode cL_law 1609 = .ok (.iinc 4 6, 3) := by decide +kernel
theorem dL_law_1612 : decode cL_law 1612 = .ok (.goto (-1589), 3) := by decide +kernel
theorem dL_law_1615 : decode cL_law 1615 = .ok (.iconst 1, 1) := by decide +kernel
theorem dL_law_1616 : decode cL_law 1616 = .ok (.ireturn, 1) := by decide +kernel
theorem mvL_102 : mV R_law 102 mX11_knot 1 := ⟨(tG_of (List.mem_of_getElem? (i := 1620) (by decide +kernel)) (by decide +kernel)), (tG_of (List.mem_of_getElem? (i := 1621) (by decide +kernel)) (by decide +kernel)), (tG_of (List.mem_of_getElem? (i := 1622) (by decide +kernel)) (by decide +kernel)), (tG_of (List.mem_of_getElem? (i := 112) (by decide +kernel)) (by decide +kernel)), (tG_of (List.mem_of_getElem? (i := 1623) (by decide +kernel)) (by decide +kernel)), ⟨by decide, by decide, by decide +kernel⟩, by decide⟩
theorem mvL_103 : mV R_law 103 mX10_age 1 := ⟨(tG_of (List.mem_of_getElem? (i := 953) (by decide +kernel)) (by decide +kernel)), (tG_of (List.mem_of_getElem? (i := 954) (by decide +kernel)) (by decide +kernel)), (tG_of (List.mem_of_getElem? (i := 955) (by decide +kernel)) (by decide +kernel)), (tG_of (List.mem_of_getElem? (i := 101) (by decide +kernel)) (by decide +kernel)), (tG_of (List.mem_of_getElem? (i := 956) (by decide +kernel)) (by decide +kernel)), ⟨by decide, by decide, by decide +kernel⟩, by decide⟩
theorem mvL_106 : mV R_law 106 mX11_age 1 := ⟨(tG_of (List.mem_of_getElem? (i := 1624) (by decide +kernel)) (by decide +kernel)), (tG_of (List.mem_of_getElem? (i := 1625) (by decide +kernel)) (by decide +kernel)), (tG_of (List.mem_of_getElem? (i := 1626) (by decide +kernel)) (by decide +kernel)), (tG_of (List.mem_of_getElem? (i := 112) (by decide +kernel)) (by decide +kernel)), (tG_of (List.mem_of_getElem? (i := 1627) (by decide +kernel)) (by decide +kernel)), ⟨by decide, by decide, by decide +kernel⟩, by decide⟩
theorem mvL_107 : mV R_law 107 mX10_first 0 := ⟨(tG_of (List.mem_of_getElem? (i := 961) (by decide +kernel)) (by decide +kernel)), (tG_of (List.mem_of_getElem? (i := 962) (by decide +kernel)) (by decide +kernel)), (tG_of (List.mem_of_getElem? (i := 963) (by decide +kernel)) (by decide +kernel)), (tG_of (List.mem_of_getElem? (i := 101) (by decide +kernel)) (by decide +kernel)), (tG_of (List.mem_of_getElem? (i := 964) (by decide +kernel)) (by decide +kernel)), ⟨by decide, by decide, by decide +kernel⟩, by decide⟩
theorem mvL_110 : mV R_law 110 mX11_first 0 := ⟨(tG_of (List.mem_of_getElem? (i := 1632) (by decide +kernel)) (by decide +kernel)), (tG_of (List.mem_of_getElem? (i := 1633) (by decide +kernel)) (by decide +kernel)), (tG_of (List.mem_of_getElem? (i := 1634) (by decide +kernel)) (by decide +kernel)), (tG_of (List.mem_of_getElem? (i := 112) (by decide +kernel)) (by decide +kernel)), (tG_of (List.mem_of_getElem? (i := 1635) (by decide +kernel)) (by decide +kernel)), ⟨by decide, by decide, by decide +kernel⟩, by decide⟩
theorem mvL_111 : mV R_law 111 mX10_post 2 := ⟨(tG_of (List.mem_of_getElem? (i := 965) (by decide +kernel)) (by decide +kernel)), (tG_of (List.mem_of_getElem? (i := 966) (by decide +kernel)) (by decide +kernel)), (tG_of (List.mem_of_getElem? (i := 967) (by decide +kernel)) (by decide +kernel)), (tG_of (List.mem_of_getElem? (i := 101) (by decide +kernel)) (by decide +kernel)), (tG_of (List.mem_of_getElem? (i := 968) (by decide +kernel)) (by decide +kernel)), ⟨by decide, by decide, by decide +kernel⟩, by decide⟩
theorem mvL_114 : mV R_law 114 mX11_post 2 := ⟨(tG_of (List.mem_of_getElem? (i := 1636) (by decide +kernel)) (by decide +kernel)), (tG_of (List.mem_of_getElem? (i := 1637) (by decide +kernel)) (by decide +kernel)), (tG_of (List.mem_of_getElem? (i := 1638) (by decide +kernel)) (by decide +kernel)), (tG_of (List.mem_of_getElem? (i := 112) (by decide +kernel)) (by decide +kernel)), (tG_of (List.mem_of_getElem? (i := 1639) (by decide +kernel)) (by decide +kernel)), ⟨by decide, by decide, by decide +kernel⟩, by decide⟩
theorem mvL_115 : mV R_law 115 mX10_rope 2 := ⟨(tG_of (List.mem_of_getElem? (i := 977) (by decide +kernel)) (by decide +kernel)), (tG_of (List.mem_of_getElem? (i := 978) (by decide +kernel)) (by decide +kernel)), (tG_of (List.mem_of_getElem? (i := 979) (by decide +kernel)) (by decide +kernel)), (tG_of (List.mem_of_getElem? (i := 101) (by decide +kernel)) (by decide +kernel)), (tG_of (List.mem_of_getElem? (i := 980) (by decide +kernel)) (by decide +kernel)), ⟨by decide, by decide, by decide +kernel⟩, by decide⟩
theorem mvL_118 : mV R_law 118 mX11_rope 2 := ⟨(tG_of (List.mem_of_getElem? (i := 1644) (by decide +kernel)) (by decide +kernel)), (tG_of (List.mem_of_getElem? (i := 1645) (by decide +kernel)) (by decide +kernel)), (tG_of (List.mem_of_getElem? (i := 1646) (by decide +kernel)) (by decide +kernel)), (tG_of (List.mem_of_getElem? (i := 112) (by decide +kernel)) (by decide +kernel)), (tG_of (List.mem_of_getElem? (i := 1647) (by decide +kernel)) (by decide +kernel)), ⟨by decide, by decide, by decide +kernel⟩, by decide⟩
theorem mvL_119 : mV R_law 119 mX10_exchange 3 := ⟨(tG_of (List.mem_of_getElem? (i := 987) (by decide +kernel)) (by decide +kernel)), (tG_of (List.mem_of_getElem? (i := 988) (by decide +kernel)) (by decide +kernel)), (tG_of (List.mem_of_getElem? (i := 989) (by decide +kernel)) (by decide +kernel)), (tG_of (List.mem_of_getElem? (i := 101) (by decide +kernel)) (by decide +kernel)), (tG_of (List.mem_of_getElem? (i := 990) (by decide +kernel)) (by decide +kernel)), ⟨by decide, by decide, by decide +kernel⟩, by decide⟩
theorem mvL_122 : mV R_law 122 mX11_exchange 3 := ⟨(tG_of (List.mem_of_getElem? (i := 1648) (by decide +kernel)) (by decide +kernel)), (tG_of (List.mem_of_getElem? (i := 1649) (by decide +kernel)) (by decide +kernel)), (tG_of (List.mem_of_getElem? (i := 1650) (by decide +kernel)) (by decide +kernel)), (tG_of (List.mem_of_getElem? (i := 112) (by decide +kernel)) (by decide +kernel)), (tG_of (List.mem_of_getElem? (i := 1651) (by decide +kernel)) (by decide +kernel)), ⟨by decide, by decide, by decide +kernel⟩, by decide⟩
theorem mvL_123 : mV R_law 123 mX10_skip 3 := ⟨(tG_of (List.mem_of_getElem? (i := 1007) (by decide +kernel)) (by decide +kernel)), (tG_of (List.mem_of_getElem? (i := 1008) (by decide +kernel)) (by decide +kernel)), (tG_of (List.mem_of_getElem? (i := 1009) (by decide +kernel)) (by decide +kernel)), (tG_of (List.mem_of_getElem? (i := 101) (by decide +kernel)) (by decide +kernel)), (tG_of (List.mem_of_getElem? (i := 1010) (by decide +kernel)) (by decide +kernel)), ⟨by decide, by decide, by decide +kernel⟩, by decide⟩
theorem mvL_126 : mV R_law 126 mX11_skip 3 := ⟨(tG_of (List.mem_of_getElem? (i := 1656) (by decide +kernel)) (by decide +kernel)), (tG_of (List.mem_of_getElem? (i := 1657) (by decide +kernel)) (by decide +kernel)), (tG_of (List.mem_of_getElem? (i := 1658) (by decide +kernel)) (by decide +kernel)), (tG_of (List.mem_of_getElem? (i := 112) (by decide +kernel)) (by decide +kernel)), (tG_of (List.mem_of_getElem? (i := 1659) (by decide +kernel)) (by decide +kernel)), ⟨by decide, by decide, by decide +kernel⟩, by decide⟩
theorem mvL_127 : mV R_law 127 mX10_nights 3 := ⟨(tG_of (List.mem_of_getElem? (i := 1011) (by decide +kernel)) (by decide +kernel)), (tG_of (List.mem_of_getElem? (i := 1012) (by decide +kernel)) (by decide +kernel)), (tG_of (List.mem_of_getElem? (i := 1013) (by decide +kernel)) (by decide +kernel)), (tG_of (List.mem_of_getElem? (i := 101) (by decide +kernel)) (by decide +kernel)), (tG_of (List.mem_of_getElem? (i := 1014) (by decide +kernel)) (by decide +kernel)), ⟨by decide, by decide, by decide +kernel⟩, by decide⟩
theorem mvL_130 : mV R_law 130 mX11_nights 3 := ⟨(tG_of (List.mem_of_getElem? (i := 1660) (by decide +kernel)) (by decide +kernel)), (tG_of (List.mem_of_getElem? (i := 1661) (by decide +kernel)) (by decide +kernel)), (tG_of (List.mem_of_getElem? (i := 1662) (by decide +kernel)) (by decide +kernel)), (tG_of (List.mem_of_getElem? (i := 112) (by decide +kernel)) (by decide +kernel)), (tG_of (List.mem_of_getElem? (i := 1663) (by decide +kernel)) (by decide +kernel)), ⟨by decide, by decide, by decide +kernel⟩, by decide⟩
theorem mvL_131 : mV R_law 131 mX10_thud 2 := ⟨(tG_of (List.mem_of_getElem? (i := 1019) (by decide +kernel)) (by decide +kernel)), (tG_of (List.mem_of_getElem? (i := 1020) (by decide +kernel)) (by decide +kernel)), (tG_of (List.mem_of_getElem? (i := 1021) (by decide +kernel)) (by decide +kernel)), (tG_of (List.mem_of_getElem? (i := 101) (by decide +kernel)) (by decide +kernel)), (tG_of (List.mem_of_getElem? (i := 1022) (by decide +kernel)) (by decide +kernel)), ⟨by decide, by decide, by decide +kernel⟩, by decide⟩
theorem mvL_134 : mV R_law 134 mX11_thud 2 := ⟨(tG_of (List.mem_of_getElem? (i := 1668) (by decide +kernel)) (by decide +kernel)), (tG_of (List.mem_of_getElem? (i := 1669) (by decide +kernel)) (by decide +kernel)), (tG_of (List.mem_of_getElem? (i := 1670) (by decide +kernel)) (by decide +kernel)), (tG_of (List.mem_of_getElem? (i := 112) (by decide +kernel)) (by decide +kernel)), (tG_of (List.mem_of_getElem? (i := 1671) (by decide +kernel)) (by decide +kernel)), ⟨by decide, by decide, by decide +kernel⟩, by decide⟩
theorem mvL_135 : mV R_law 135 mX10_fit 2 := ⟨(tG_of (List.mem_of_getElem? (i := 1027) (by decide +kernel)) (by decide +kernel)), (tG_of (List.mem_of_getElem? (i := 1028) (by decide +kernel)) (by decide +kernel)), (tG_of (List.mem_of_getElem? (i := 1029) (by decide +kernel)) (by decide +kernel)), (tG_of (List.mem_of_getElem? (i := 101) (by decide +kernel)) (by decide +kernel)), (tG_of (List.mem_of_getElem? (i := 1030) (by decide +kernel)) (by decide +kernel)), ⟨by decide, by decide, by decide +kernel⟩, by decide⟩
theorem mvL_138 : mV R_law 138 mX11_fit 2 := ⟨(tG_of (List.mem_of_getElem? (i := 1672) (by decide +kernel)) (by decide +kernel)), (tG_of (List.mem_of_getElem? (i := 1673) (by decide +kernel)) (by decide +kernel)), (tG_of (List.mem_of_getElem? (i := 1674) (by decide +kernel)) (by decide +kernel)), (tG_of (List.mem_of_getElem? (i := 112) (by decide +kernel)) (by decide +kernel)), (tG_of (List.mem_of_getElem? (i := 1675) (by decide +kernel)) (by decide +kernel)), ⟨by decide, by decide, by decide +kernel⟩, by decide⟩
theorem mvL_139 : mV R_law 139 mX10_boy 4 := ⟨(tG_of (List.mem_of_getElem? (i := 1058) (by decide +kernel)) (by decide +kernel)), (tG_of (List.mem_of_getElem? (i := 1059) (by decide +kernel)) (by decide +kernel)), (tG_of (List.mem_of_getElem? (i := 1060) (by decide +kernel)) (by decide +kernel)), (tG_of (List.mem_of_getElem? (i := 101) (by decide +kernel)) (by decide +kernel)), (tG_of (List.mem_of_getElem? (i := 1061) (by decide +kernel)) (by decide +kernel)), ⟨by decide, by decide, by decide +kernel⟩, by decide⟩
theorem mvL_142 : mV R_law 142 mX11_boy 4 := ⟨(tG_of (List.mem_of_getElem? (i := 1684) (by decide +kernel)) (by decide +kernel)), (tG_of (List.mem_of_getElem? (i := 1685) (by decide +kernel)) (by decide +kernel)), (tG_of (List.mem_of_getElem? (i := 1686) (by decide +kernel)) (by decide +kernel)), (tG_of (List.mem_of_getElem? (i := 112) (by decide +kernel)) (by decide +kernel)), (tG_of (List.mem_of_getElem? (i := 1687) (by decide +kernel)) (by decide +kernel)), ⟨by decide, by decide, by decide +kernel⟩, by decide⟩
theorem mvL_143 : mV R_law 143 mX10_out 1 := ⟨(tG_of (List.mem_of_getElem? (i := 762) (by decide +kernel)) (by decide +kernel)), (tG_of (List.mem_of_getElem? (i := 763) (by decide +kernel)) (by decide +kernel)), (tG_of (List.mem_of_getElem? (i := 764) (by decide +kernel)) (by decide +kernel)), (tG_of (List.mem_of_getElem? (i := 101) (by decide +kernel)) (by decide +kernel)), (tG_of (List.mem_of_getElem? (i := 765) (by decide +kernel)) (by decide +kernel)), ⟨by decide, by decide, by decide +kernel⟩, by decide⟩
theorem mvL_146 : mV R_law 146 mX11_out 1 := ⟨(tG_of (List.mem_of_getElem? (i := 1688) (by decide +kernel)) (by decide +kernel)), (tG_of (List.mem_of_getElem? (i := 1689) (by decide +kernel)) (by decide +kernel)), (tG_of (List.mem_of_getElem? (i := 1690) (by decide +kernel)) (by decide +kernel)), (tG_of (List.mem_of_getElem? (i := 112) (by decide +kernel)) (by decide +kernel)), (tG_of (List.mem_of_getElem? (i := 1691) (by decide +kernel)) (by decide +kernel)), ⟨by decide, by decide, by decide +kernel⟩, by decide⟩
theorem mvL_147 : mV R_law 147 mX10_walk 3 := ⟨(tG_of (List.mem_of_getElem? (i := 871) (by decide +kernel)) (by decide +kernel)), (tG_of (List.mem_of_getElem? (i := 872) (by decide +kernel)) (by decide +kernel)), (tG_of (List.mem_of_getElem? (i := 873) (by decide +kernel)) (by decide +kernel)), (tG_of (List.mem_of_getElem? (i := 101) (by decide +kernel)) (by decide +kernel)), (tG_of (List.mem_of_getElem? (i := 874) (by decide +kernel)) (by decide +kernel)), ⟨by decide, by decide, by decide +kernel⟩, by decide⟩
theorem mvL_150 : mV R_law 150 mX11_walk 3 := ⟨(tG_of (List.mem_of_getElem? (i := 1692) (by decide +kernel)) (by decide +kernel)), (tG_of (List.mem_of_getElem? (i := 1693) (by decide +kernel)) (by decide +kernel)), (tG_of (List.mem_of_getElem? (i := 1694) (by decide +kernel)) (by decide +kernel)), (tG_of (List.mem_of_getElem? (i := 112) (by decide +kernel)) (by decide +kernel)), (tG_of (List.mem_of_getElem? (i := 1695) (by decide +kernel)) (by decide +kernel)), ⟨by decide, by decide, by decide +kernel⟩, by decide⟩
theorem mvL_151 : mV R_law 151 mX10_mend 3 := ⟨(tG_of (List.mem_of_getElem? (i := 922) (by decide +kernel)) (by decide +kernel)), (tG_of (List.mem_of_getElem? (i := 923) (by decide +kernel)) (by decide +kernel)), (tG_of (List.mem_of_getElem? (i := 924) (by decide +kernel)) (by decide +kernel)), (tG_of (List.mem_of_getElem? (i := 101) (by decide +kernel)) (by decide +kernel)), (tG_of (List.mem_of_getElem? (i := 925) (by decide +kernel)) (by decide +kernel)), ⟨by decide, by decide, by decide +kernel⟩, by decide⟩
theorem mvL_154 : mV R_law 154 mX11_mend 3 := ⟨(tG_of (List.mem_of_getElem? (i := 1696) (by decide +kernel)) (by decide +kernel)), (tG_of (List.mem_of_getElem? (i := 1697) (by decide +kernel)) (by decide +kernel)), (tG_of (List.mem_of_getElem? (i := 1698) (by decide +kernel)) (by decide +kernel)), (tG_of (List.mem_of_getElem? (i := 112) (by decide +kernel)) (by decide +kernel)), (tG_of (List.mem_of_getElem? (i := 1699) (by decide +kernel)) (by decide +kernel)), ⟨by decide, by decide, by decide +kernel⟩, by decide⟩
theorem mvL_155 : mV R_law 155 mX10_slack 2 := ⟨(tG_of (List.mem_of_getElem? (i := 1015) (by decide +kernel)) (by decide +kernel)), (tG_of (List.mem_of_getElem? (i := 1016) (by decide +kernel)) (by decide +kernel)), (tG_of (List.mem_of_getElem? (i := 1017) (by decide +kernel)) (by decide +kernel)), (tG_of (List.mem_of_getElem? (i := 101) (by decide +kernel)) (by decide +kernel)), (tG_of (List.mem_of_getElem? (i := 1018) (by decide +kernel)) (by decide +kernel)), ⟨by decide, by decide, by decide +kernel⟩, by decide⟩
theorem mvL_158 : mV R_law 158 mX11_slack 2 := ⟨(tG_of (List.mem_of_getElem? (i := 1700) (by decide +kernel)) (by decide +kernel)), (tG_of (List.mem_of_getElem? (i := 1701) (by decide +kernel)) (by decide +kernel)), (tG_of (List.mem_of_getElem? (i := 1702) (by decide +kernel)) (by decide +kernel)), (tG_of (List.mem_of_getElem? (i := 112) (by decide +kernel)) (by decide +kernel)), (tG_of (List.mem_of_getElem? (i := 1703) (by decide +kernel)) (by decide +kernel)), ⟨by decide, by decide, by decide +kernel⟩, by decide⟩
theorem mvL_159 : mV R_law 159 mX10_urgent 1 := ⟨(tG_of (List.mem_of_getElem? (i := 1003) (by decide +kernel)) (by decide +kernel)), (tG_of (List.mem_of_getElem? (i := 1004) (by decide +kernel)) (by decide +kernel)), (tG_of (List.mem_of_getElem? (i := 1005) (by decide +kernel)) (by decide +kernel)), (tG_of (List.mem_of_getElem? (i := 101) (by decide +kernel)) (by decide +kernel)), (tG_of (List.mem_of_getElem? (i := 1006) (by decide +kernel)) (by decide +kernel)), ⟨by decide, by decide, by decide +kernel⟩, by decide⟩
theorem mvL_162 : mV R_law 162 mX11_urgent 1 := ⟨(tG_of (List.mem_of_getElem? (i := 1704) (by decide +kernel)) (by decide +kernel)), (tG_of (List.mem_of_getElem? (i := 1705) (by decide +kernel)) (by decide +kernel)), (tG_of (List.mem_of_getElem? (i := 1706) (by decide +kernel)) (by decide +kernel)), (tG_of (List.mem_of_getElem? (i := 112) (by decide +kernel)) (by decide +kernel)), (tG_of (List.mem_of_getElem? (i := 1707) (by decide +kernel)) (by decide +kernel)), ⟨by decide, by decide, by decide +kernel⟩, by decide⟩
theorem mvL_163 : mV R_law 163 mX10_dead 0 := ⟨(tG_of (List.mem_of_getElem? (i := 767) (by decide +kernel)) (by decide +kernel)), (tG_of (List.mem_of_getElem? (i := 768) (by decide +kernel)) (by decide +kernel)), (tG_of (List.mem_of_getElem? (i := 769) (by decide +kernel)) (by decide +kernel)), (tG_of (List.mem_of_getElem? (i := 101) (by decide +kernel)) (by decide +kernel)), (tG_of (List.mem_of_getElem? (i := 770) (by decide +kernel)) (by decide +kernel)), ⟨by decide, by decide, by decide +kernel⟩, by decide⟩
theorem mvL_166 : mV R_law 166 mX11_dead 0 := ⟨(tG_of (List.mem_of_getElem? (i := 1708) (by decide +kernel)) (by decide +kernel)), (tG_of (List.mem_of_getElem? (i := 1709) (by decide +kernel)) (by decide +kernel)), (tG_of (List.mem_of_getElem? (i := 1710) (by decide +kernel)) (by decide +kernel)), (tG_of (List.mem_of_getElem? (i := 112) (by decide +kernel)) (by decide +kernel)), (tG_of (List.mem_of_getElem? (i := 1711) (by decide +kernel)) (by decide +kernel)), ⟨by decide, by decide, by decide +kernel⟩, by decide⟩
theorem mvL_167 : mV R_law 167 mX10_pillar 2 := ⟨(tG_of (List.mem_of_getElem? (i := 995) (by decide +kernel)) (by decide +kernel)), (tG_of (List.mem_of_getElem? (i := 996) (by decide +kernel)) (by decide +kernel)), (tG_of (List.mem_of_getElem? (i := 997) (by decide +kernel)) (by decide +kernel)), (tG_of (List.mem_of_getElem? (i := 101) (by decide +kernel)) (by decide +kernel)), (tG_of (List.mem_of_getElem? (i := 998) (by decide +kernel)) (by decide +kernel)), ⟨by decide, by decide, by decide +kernel⟩, by decide⟩
theorem mvL_170 : mV R_law 170 mX11_pillar 2 := ⟨(tG_of (List.mem_of_getElem? (i := 1712) (by decide +kernel)) (by decide +kernel)), (tG_of (List.mem_of_getElem? (i := 1713) (by decide +kernel)) (by decide +kernel)), (tG_of (List.mem_of_getElem? (i := 1714) (by decide +kernel)) (by decide +kernel)), (tG_of (List.mem_of_getElem? (i := 112) (by decide +kernel)) (by decide +kernel)), (tG_of (List.mem_of_getElem? (i := 1715) (by decide +kernel)) (by decide +kernel)), ⟨by decide, by decide, by decide +kernel⟩, by decide⟩
theorem mvL_171 : mV R_law 171 mX10_image 0 := ⟨(tG_of (List.mem_of_getElem? (i := 748) (by decide +kernel)) (by decide +kernel)), (tG_of (List.mem_of_getElem? (i := 749) (by decide +kernel)) (by decide +kernel)), (tG_of (List.mem_of_getElem? (i := 750) (by decide +kernel)) (by decide +kernel)), (tG_of (List.mem_of_getElem? (i := 101) (by decide +kernel)) (by decide +kernel)), (tG_of (List.mem_of_getElem? (i := 751) (by decide +kernel)) (by decide +kernel)), ⟨by decide, by decide, by decide +kernel⟩, by decide⟩
theorem mvL_174 : mV R_law 174 mX11_image 0 := ⟨(tG_of (List.mem_of_getElem? (i := 1717) (by decide +kernel)) (by decide +kernel)), (tG_of (List.mem_of_getElem? (i := 1718) (by decide +kernel)) (by decide +kernel)), (tG_of (List.mem_of_getElem? (i := 1719) (by decide +kernel)) (by decide +kernel)), (tG_of (List.mem_of_getElem? (i := 112) (by decide +kernel)) (by decide +kernel)), (tG_of (List.mem_of_getElem? (i := 1720) (by decide +kernel)) (by decide +kernel)), ⟨by decide, by decide, by decide +kernel⟩, by decide⟩
theorem mvL_175 : mV R_law 175 mX10_back 0 := ⟨(tG_of (List.mem_of_getElem? (i := 758) (by decide +kernel)) (by decide +kernel)), (tG_of (List.mem_of_getElem? (i := 759) (by decide +kernel)) (by decide +kernel)), (tG_of (List.mem_of_getElem? (i := 760) (by decide +kernel)) (by decide +kernel)), (tG_of (List.mem_of_getElem? (i := 101) (by decide +kernel)) (by decide +kernel)), (tG_of (List.mem_of_getElem? (i := 761) (by decide +kernel)) (by decide +kernel)), ⟨by decide, by decide, by decide +kernel⟩, by decide⟩
theorem mvL_178 : mV R_law 178 mX11_back 0 := ⟨(tG_of (List.mem_of_getElem? (i := 1725) (by decide +kernel)) (by decide +kernel)), (tG_of (List.mem_of_getElem? (i := 1726) (by decide +kernel)) (by decide +kernel)), (tG_of (List.mem_of_getElem? (i := 1727) (by decide +kernel)) (by decide +kernel)), (tG_of (List.mem_of_getElem? (i := 112) (by decide +kernel)) (by decide +kernel)), (tG_of (List.mem_of_getElem? (i := 1728) (by decide +kernel)) (by decide +kernel)), ⟨by decide, by decide, by decide +kernel⟩, by decide⟩
theorem mvL_179 : mV R_law 179 mX10_count 1 := ⟨(tG_of (List.mem_of_getElem? (i := 772) (by decide +kernel)) (by decide +kernel)), (tG_of (List.mem_of_getElem? (i := 773) (by decide +kernel)) (by decide +kernel)), (tG_of (List.mem_of_getElem? (i := 774) (by decide +kernel)) (by decide +kernel)), (tG_of (List.mem_of_getElem? (i := 101) (by decide +kernel)) (by decide +kernel)), (tG_of (List.mem_of_getElem? (i := 775) (by decide +kernel)) (by decide +kernel)), ⟨by decide, by decide, by decide +kernel⟩, by decide⟩
theorem mvL_182 : mV R_law 182 mX11_count 1 := ⟨(tG_of (List.mem_of_getElem? (i := 1729) (by decide +kernel)) (by decide +kernel)), (tG_of (List.mem_of_getElem? (i := 1730) (by decide +kernel)) (by decide +kernel)), (tG_of (List.mem_of_getElem? (i := 1731) (by decide +kernel)) (by decide +kernel)), (tG_of (List.mem_of_getElem? (i := 112) (by decide +kernel)) (by decide +kernel)), (tG_of (List.mem_of_getElem? (i := 1732) (by decide +kernel)) (by decide +kernel)), ⟨by decide, by decide, by decide +kernel⟩, by decide⟩
theorem mvL_19 : mV R_law 19 mX10_feed 5 := ⟨(tG_of (List.mem_of_getElem? (i := 482) (by decide +kernel)) (by decide +kernel)), (tG_of (List.mem_of_getElem? (i := 483) (by decide +kernel)) (by decide +kernel)), (tG_of (List.mem_of_getElem? (i := 484) (by decide +kernel)) (by decide +kernel)), (tG_of (List.mem_of_getElem? (i := 101) (by decide +kernel)) (by decide +kernel)), (tG_of (List.mem_of_getElem? (i := 485) (by decide +kernel)) (by decide +kernel)), ⟨by decide, by decide, by decide +kernel⟩, by decide⟩
theorem mvL_23 : mV R_law 23 mX11_feed 5 := ⟨(tG_of (List.mem_of_getElem? (i := 1335) (by decide +kernel)) (by decide +kernel)), (tG_of (List.mem_of_getElem? (i := 1336) (by decide +kernel)) (by decide +kernel)), (tG_of (List.mem_of_getElem? (i := 1337) (by decide +kernel)) (by decide +kernel)), (tG_of (List.mem_of_getElem? (i := 112) (by decide +kernel)) (by decide +kernel)), (tG_of (List.mem_of_getElem? (i := 1338) (by decide +kernel)) (by decide +kernel)), ⟨by decide, by decide, by decide +kernel⟩, by decide⟩
theorem mvL_24 : mV R_law 24 mX10_end 1 := ⟨(tG_of (List.mem_of_getElem? (i := 493) (by decide +kernel)) (by decide +kernel)), (tG_of (List.mem_of_getElem? (i := 494) (by decide +kernel)) (by decide +kernel)), (tG_of (List.mem_of_getElem? (i := 495) (by decide +kernel)) (by decide +kernel)), (tG_of (List.mem_of_getElem? (i := 101) (by decide +kernel)) (by decide +kernel)), (tG_of (List.mem_of_getElem? (i := 496) (by decide +kernel)) (by decide +kernel)), ⟨by decide, by decide, by decide +kernel⟩, by decide⟩
theorem mvL_28 : mV R_law 28 mX11_end 1 := ⟨(tG_of (List.mem_of_getElem? (i := 1342) (by decide +kernel)) (by decide +kernel)), (tG_of (List.mem_of_getElem? (i := 1343) (by decide +kernel)) (by decide +kernel)), (tG_of (List.mem_of_getElem? (i := 1344) (by decide +kernel)) (by decide +kernel)), (tG_of (List.mem_of_getElem? (i := 112) (by decide +kernel)) (by decide +kernel)), (tG_of (List.mem_of_getElem? (i := 1345) (by decide +kernel)) (by decide +kernel)), ⟨by decide, by decide, by decide +kernel⟩, by decide⟩
theorem mvL_29 : mV R_law 29 mX10_fault 1 := ⟨(tG_of (List.mem_of_getElem? (i := 501) (by decide +kernel)) (by decide +kernel)), (tG_of (List.mem_of_getElem? (i := 502) (by decide +kernel)) (by decide +kernel)), (tG_of (List.mem_of_getElem? (i := 503) (by decide +kernel)) (by decide +kernel)), (tG_of (List.mem_of_getElem? (i := 101) (by decide +kernel)) (by decide +kernel)), (tG_of (List.mem_of_getElem? (i := 504) (by decide +kernel)) (by decide +kernel)), ⟨by decide, by decide, by decide +kernel⟩, by decide⟩
theorem mvL_32 : mV R_law 32 mX11_fault 1 := ⟨(tG_of (List.mem_of_getElem? (i := 1346) (by decide +kernel)) (by decide +kernel)), (tG_of (List.mem_of_getElem? (i := 1347) (by decide +kernel)) (by decide +kernel)), (tG_of (List.mem_of_getElem? (i := 1348) (by decide +kernel)) (by decide +kernel)), (tG_of (List.mem_of_getElem? (i := 112) (by decide +kernel)) (by decide +kernel)), (tG_of (List.mem_of_getElem? (i := 1349) (by decide +kernel)) (by decide +kernel)), ⟨by decide, by decide, by decide +kernel⟩, by decide⟩
theorem mvL_33 : mV R_law 33 mX10_text 1 := ⟨(tG_of (List.mem_of_getElem? (i := 654) (by decide +kernel)) (by decide +kernel)), (tG_of (List.mem_of_getElem? (i := 655) (by decide +kernel)) (by decide +kernel)), (tG_of (List.mem_of_getElem? (i := 656) (by decide +kernel)) (by decide +kernel)), (tG_of (List.mem_of_getElem? (i := 101) (by decide +kernel)) (by decide +kernel)), (tG_of (List.mem_of_getElem? (i := 657) (by decide +kernel)) (by decide +kernel)), ⟨by decide, by decide, by decide +kernel⟩, by decide⟩
theorem mvL_36 : mV R_law 36 mX11_text 1 := ⟨(tG_of (List.mem_of_getElem? (i := 1460) (by decide +kernel)) (by decide +kernel)), (tG_of (List.mem_of_getElem? (i := 1461) (by decide +kernel)) (by decide +kernel)), (tG_of (List.mem_of_getElem? (i := 1462) (by decide +kernel)) (by decide +kernel)), (tG_of (List.mem_of_getElem? (i := 112) (by decide +kernel)) (by decide +kernel)), (tG_of (List.mem_of_getElem? (i := 1463) (by decide +kernel)) (by decide +kernel)), ⟨by decide, by decide, by decide +kernel⟩, by decide⟩
theorem mvL_42 : mV R_law 42 mX11_crank 1 := ⟨(tG_of (List.mem_of_getElem? (i := 1473) (by decide +kernel)) (by decide +kernel)), (tG_of (List.mem_of_getElem? (i := 1474) (by decide +kernel)) (by decide +kernel)), (tG_of (List.mem_of_getElem? (i := 1475) (by decide +kernel)) (by decide +kernel)), (tG_of (List.mem_of_getElem? (i := 112) (by decide +kernel)) (by decide +kernel)), (tG_of (List.mem_of_getElem? (i := 1476) (by decide +kernel)) (by decide +kernel)), ⟨by decide, by decide, by decide +kernel⟩, by decide⟩
theorem mvL_43 : mV R_law 43 mX11_thrown 0 := ⟨(tG_of (List.mem_of_getElem? (i := 1331) (by decide +kernel)) (by decide +kernel)), (tG_of (List.mem_of_getElem? (i := 1332) (by decide +kernel)) (by decide +kernel)), (tG_of (List.mem_of_getElem? (i := 1333) (by decide +kernel)) (by decide +kernel)), (tG_of (List.mem_of_getElem? (i := 112) (by decide +kernel)) (by decide +kernel)), (tG_of (List.mem_of_getElem? (i := 1334) (by decide +kernel)) (by decide +kernel)), ⟨by decide, by decide, by decide +kernel⟩, by decide⟩
theorem mvL_47 : mV R_law 47 mX10_at 1 := ⟨(tG_of (List.mem_of_getElem? (i := 678) (by decide +kernel)) (by decide +kernel)), (tG_of (List.mem_of_getElem? (i := 679) (by decide +kernel)) (by decide +kernel)), (tG_of (List.mem_of_getElem? (i := 680) (by decide +kernel)) (by decide +kernel)), (tG_of (List.mem_of_getElem? (i := 101) (by decide +kernel)) (by decide +kernel)), (tG_of (List.mem_of_getElem? (i := 681) (by decide +kernel)) (by decide +kernel)), ⟨by decide, by decide, by decide +kernel⟩, by decide⟩
theorem mvL_50 : mV R_law 50 mX11_at 1 := ⟨(tG_of (List.mem_of_getElem? (i := 1485) (by decide +kernel)) (by decide +kernel)), (tG_of (List.mem_of_getElem? (i := 1486) (by decide +kernel)) (by decide +kernel)), (tG_of (List.mem_of_getElem? (i := 1487) (by decide +kernel)) (by decide +kernel)), (tG_of (List.mem_of_getElem? (i := 112) (by decide +kernel)) (by decide +kernel)), (tG_of (List.mem_of_getElem? (i := 1488) (by decide +kernel)) (by decide +kernel)), ⟨by decide, by decide, by decide +kernel⟩, by decide⟩
theorem mvL_51 : mV R_law 51 mX10_way 2 := ⟨(tG_of (List.mem_of_getElem? (i := 686) (by decide +kernel)) (by decide +kernel)), (tG_of (List.mem_of_getElem? (i := 687) (by decide +kernel)) (by decide +kernel)), (tG_of (List.mem_of_getElem? (i := 688) (by decide +kernel)) (by decide +kernel)), (tG_of (List.mem_of_getElem? (i := 101) (by decide +kernel)) (by decide +kernel)), (tG_of (List.mem_of_getElem? (i := 689) (by decide +kernel)) (by decide +kernel)), ⟨by decide, by decide, by decide +kernel⟩, by decide⟩
theorem mvL_55 : mV R_law 55 mX11_way 2 := ⟨(tG_of (List.mem_of_getElem? (i := 1489) (by decide +kernel)) (by decide +kernel)), (tG_of (List.mem_of_getElem? (i := 1490) (by decide +kernel)) (by decide +kernel)), (tG_of (List.mem_of_getElem? (i := 1491) (by decide +kernel)) (by decide +kernel)), (tG_of (List.mem_of_getElem? (i := 112) (by decide +kernel)) (by decide +kernel)), (tG_of (List.mem_of_getElem? (i := 1492) (by decide +kernel)) (by decide +kernel)), ⟨by decide, by decide, by decide +kernel⟩, by decide⟩
theorem mvL_56 : mV R_law 56 mX10_cue 3 := ⟨(tG_of (List.mem_of_getElem? (i := 777) (by decide +kernel)) (by decide +kernel)), (tG_of (List.mem_of_getElem? (i := 778) (by decide +kernel)) (by decide +kernel)), (tG_of (List.mem_of_getElem? (i := 779) (by decide +kernel)) (by decide +kernel)), (tG_of (List.mem_of_getElem? (i := 101) (by decide +kernel)) (by decide +kernel)), (tG_of (List.mem_of_getElem? (i := 780) (by decide +kernel)) (by decide +kernel)), ⟨by decide, by decide, by decide +kernel⟩, by decide⟩
theorem mvL_60 : mV R_law 60 mX11_cue 3 := ⟨(tG_of (List.mem_of_getElem? (i := 1505) (by decide +kernel)) (by decide +kernel)), (tG_of (List.mem_of_getElem? (i := 1506) (by decide +kernel)) (by decide +kernel)), (tG_of (List.mem_of_getElem? (i := 1507) (by decide +kernel)) (by decide +kernel)), (tG_of (List.mem_of_getElem? (i := 112) (by decide +kernel)) (by decide +kernel)), (tG_of (List.mem_of_getElem? (i := 1508) (by decide +kernel)) (by decide +kernel)), ⟨by decide, by decide, by decide +kernel⟩, by decide⟩
theorem mvL_61 : mV R_law 61 mX10_set 2 := ⟨(tG_of (List.mem_of_getElem? (i := 707) (by decide +kernel)) (by decide +kernel)), (tG_of (List.mem_of_getElem? (i := 708) (by decide +kernel)) (by decide +kernel)), (tG_of (List.mem_of_getElem? (i := 709) (by decide +kernel)) (by decide +kernel)), (tG_of (List.mem_of_getElem? (i := 101) (by decide +kernel)) (by decide +kernel)), (tG_of (List.mem_of_getElem? (i := 710) (by decide +kernel)) (by decide +kernel)), ⟨by decide, by decide, by decide +kernel⟩, by decide⟩
theorem mvL_65 : mV R_law 65 mX11_set 2 := ⟨(tG_of (List.mem_of_getElem? (i := 1537) (by decide +kernel)) (by decide +kernel)), (tG_of (List.mem_of_getElem? (i := 1538) (by decide +kernel)) (by decide +kernel)), (tG_of (List.mem_of_getElem? (i := 1539) (by decide +kernel)) (by decide +kernel)), (tG_of (List.mem_of_getElem? (i := 112) (by decide +kernel)) (by decide +kernel)), (tG_of (List.mem_of_getElem? (i := 1540) (by decide +kernel)) (by decide +kernel)), ⟨by decide, by decide, by decide +kernel⟩, by decide⟩
theorem mvL_66 : mV R_law 66 mX10_wind 2 := ⟨(tG_of (List.mem_of_getElem? (i := 723) (by decide +kernel)) (by decide +kernel)), (tG_of (List.mem_of_getElem? (i := 724) (by decide +kernel)) (by decide +kernel)), (tG_of (List.mem_of_getElem? (i := 725) (by decide +kernel)) (by decide +kernel)), (tG_of (List.mem_of_getElem? (i := 101) (by decide +kernel)) (by decide +kernel)), (tG_of (List.mem_of_getElem? (i := 726) (by decide +kernel)) (by decide +kernel)), ⟨by decide, by decide, by decide +kernel⟩, by decide⟩
theorem mvL_69 : mV R_law 69 mX11_wind 2 := ⟨(tG_of (List.mem_of_getElem? (i := 1541) (by decide +kernel)) (by decide +kernel)), (tG_of (List.mem_of_getElem? (i := 1542) (by decide +kernel)) (by decide +kernel)), (tG_of (List.mem_of_getElem? (i := 1543) (by decide +kernel)) (by decide +kernel)), (tG_of (List.mem_of_getElem? (i := 112) (by decide +kernel)) (by decide +kernel)), (tG_of (List.mem_of_getElem? (i := 1544) (by decide +kernel)) (by decide +kernel)), ⟨by decide, by decide, by decide +kernel⟩, by decide⟩
theorem mvL_70 : mV R_law 70 mX10_swap 2 := ⟨(tG_of (List.mem_of_getElem? (i := 731) (by decide +kernel)) (by decide +kernel)), (tG_of (List.mem_of_getElem? (i := 732) (by decide +kernel)) (by decide +kernel)), (tG_of (List.mem_of_getElem? (i := 733) (by decide +kernel)) (by decide +kernel)), (tG_of (List.mem_of_getElem? (i := 101) (by decide +kernel)) (by decide +kernel)), (tG_of (List.mem_of_getElem? (i := 734) (by decide +kernel)) (by decide +kernel)), ⟨by decide, by decide, by decide +kernel⟩, by decide⟩
theorem mvL_73 : mV R_law 73 mX11_swap 2 := ⟨(tG_of (List.mem_of_getElem? (i := 1545) (by decide +kernel)) (by decide +kernel)), (tG_of (List.mem_of_getElem? (i := 1546) (by decide +kernel)) (by decide +kernel)), (tG_of (List.mem_of_getElem? (i := 1547) (by decide +kernel)) (by decide +kernel)), (tG_of (List.mem_of_getElem? (i := 112) (by decide +kernel)) (by decide +kernel)), (tG_of (List.mem_of_getElem? (i := 1548) (by decide +kernel)) (by decide +kernel)), ⟨by decide, by decide, by decide +kernel⟩, by decide⟩
theorem mvL_74 : mV R_law 74 mX10_knock 1 := ⟨(tG_of (List.mem_of_getElem? (i := 739) (by decide +kernel)) (by decide +kernel)), (tG_of (List.mem_of_getElem? (i := 740) (by decide +kernel)) (by decide +kernel)), (tG_of (List.mem_of_getElem? (i := 741) (by decide +kernel)) (by decide +kernel)), (tG_of (List.mem_of_getElem? (i := 101) (by decide +kernel)) (by decide +kernel)), (tG_of (List.mem_of_getElem? (i := 742) (by decide +kernel)) (by decide +kernel)), ⟨by decide, by decide, by decide +kernel⟩, by decide⟩
theorem mvL_77 : mV R_law 77 mX11_knock 1 := ⟨(tG_of (List.mem_of_getElem? (i := 1553) (by decide +kernel)) (by decide +kernel)), (tG_of (List.mem_of_getElem? (i := 1554) (by decide +kernel)) (by decide +kernel)), (tG_of (List.mem_of_getElem? (i := 1555) (by decide +kernel)) (by decide +kernel)), (tG_of (List.mem_of_getElem? (i := 112) (by decide +kernel)) (by decide +kernel)), (tG_of (List.mem_of_getElem? (i := 1556) (by decide +kernel)) (by decide +kernel)), ⟨by decide, by decide, by decide +kernel⟩, by decide⟩
theorem mvL_78 : mV R_law 78 mX10_order 3 := ⟨(tG_of (List.mem_of_getElem? (i := 800) (by decide +kernel)) (by decide +kernel)), (tG_of (List.mem_of_getElem? (i := 801) (by decide +kernel)) (by decide +kernel)), (tG_of (List.mem_of_getElem? (i := 802) (by decide +kernel)) (by decide +kernel)), (tG_of (List.mem_of_getElem? (i := 101) (by decide +kernel)) (by decide +kernel)), (tG_of (List.mem_of_getElem? (i := 803) (by decide +kernel)) (by decide +kernel)), ⟨by decide, by decide, by decide +kernel⟩, by decide⟩
theorem mvL_81 : mV R_law 81 mX11_order 3 := ⟨(tG_of (List.mem_of_getElem? (i := 1557) (by decide +kernel)) (by decide +kernel)), (tG_of (List.mem_of_getElem? (i := 1558) (by decide +kernel)) (by decide +kernel)), (tG_of (List.mem_of_getElem? (i := 1559) (by decide +kernel)) (by decide +kernel)), (tG_of (List.mem_of_getElem? (i := 112) (by decide +kernel)) (by decide +kernel)), (tG_of (List.mem_of_getElem? (i := 1560) (by decide +kernel)) (by decide +kernel)), ⟨by decide, by decide, by decide +kernel⟩, by decide⟩
theorem mvL_82 : mV R_law 82 mX10_done 4 := ⟨(tG_of (List.mem_of_getElem? (i := 859) (by decide +kernel)) (by decide +kernel)), (tG_of (List.mem_of_getElem? (i := 860) (by decide +kernel)) (by decide +kernel)), (tG_of (List.mem_of_getElem? (i := 861) (by decide +kernel)) (by decide +kernel)), (tG_of (List.mem_of_getElem? (i := 101) (by decide +kernel)) (by decide +kernel)), (tG_of (List.mem_of_getElem? (i := 862) (by decide +kernel)) (by decide +kernel)), ⟨by decide, by decide, by decide +kernel⟩, by decide⟩
theorem mvL_86 : mV R_law 86 mX11_done 4 := ⟨(tG_of (List.mem_of_getElem? (i := 1592) (by decide +kernel)) (by decide +kernel)), (tG_of (List.mem_of_getElem? (i := 1593) (by decide +kernel)) (by decide +kernel)), (tG_of (List.mem_of_getElem? (i := 1594) (by decide +kernel)) (by decide +kernel)), (tG_of (List.mem_of_getElem? (i := 112) (by decide +kernel)) (by decide +kernel)), (tG_of (List.mem_of_getElem? (i := 1595) (by decide +kernel)) (by decide +kernel)), ⟨by decide, by decide, by decide +kernel⟩, by decide⟩
theorem mvL_87 : mV R_law 87 mX10_where 3 := ⟨(tG_of (List.mem_of_getElem? (i := 863) (by decide +kernel)) (by decide +kernel)), (tG_of (List.mem_of_getElem? (i := 864) (by decide +kernel)) (by decide +kernel)), (tG_of (List.mem_of_getElem? (i := 865) (by decide +kernel)) (by decide +kernel)), (tG_of (List.mem_of_getElem? (i := 101) (by decide +kernel)) (by decide +kernel)), (tG_of (List.mem_of_getElem? (i := 866) (by decide +kernel)) (by decide +kernel)), ⟨by decide, by decide, by decide +kernel⟩, by decide⟩
theorem mvL_90 : mV R_law 90 mX11_where 3 := ⟨(tG_of (List.mem_of_getElem? (i := 1596) (by decide +kernel)) (by decide +kernel)), (tG_of (List.mem_of_getElem? (i := 1597) (by decide +kernel)) (by decide +kernel)), (tG_of (List.mem_of_getElem? (i := 1598) (by decide +kernel)) (by decide +kernel)), (tG_of (List.mem_of_getElem? (i := 112) (by decide +kernel)) (by decide +kernel)), (tG_of (List.mem_of_getElem? (i := 1599) (by decide +kernel)) (by decide +kernel)), ⟨by decide, by decide, by decide +kernel⟩, by decide⟩
theorem mvL_91 : mV R_law 91 mX10_best 3 := ⟨(tG_of (List.mem_of_getElem? (i := 878) (by decide +kernel)) (by decide +kernel)), (tG_of (List.mem_of_getElem? (i := 879) (by decide +kernel)) (by decide +kernel)), (tG_of (List.mem_of_getElem? (i := 880) (by decide +kernel)) (by decide +kernel)), (tG_of (List.mem_of_getElem? (i := 101) (by decide +kernel)) (by decide +kernel)), (tG_of (List.mem_of_getElem? (i := 881) (by decide +kernel)) (by decide +kernel)), ⟨by decide, by decide, by decide +kernel⟩, by decide⟩
theorem mvL_94 : mV R_law 94 mX11_best 3 := ⟨(tG_of (List.mem_of_getElem? (i := 1600) (by decide +kernel)) (by decide +kernel)), (tG_of (List.mem_of_getElem? (i := 1601) (by decide +kernel)) (by decide +kernel)), (tG_of (List.mem_of_getElem? (i := 1602) (by decide +kernel)) (by decide +kernel)), (tG_of (List.mem_of_getElem? (i := 112) (by decide +kernel)) (by decide +kernel)), (tG_of (List.mem_of_getElem? (i := 1603) (by decide +kernel)) (by decide +kernel)), ⟨by decide, by decide, by decide +kernel⟩, by decide⟩
theorem mvL_95 : mV R_law 95 mX10_met 2 := ⟨(tG_of (List.mem_of_getElem? (i := 926) (by decide +kernel)) (by decide +kernel)), (tG_of (List.mem_of_getElem? (i := 927) (by decide +kernel)) (by decide +kernel)), (tG_of (List.mem_of_getElem? (i := 928) (by decide +kernel)) (by decide +kernel)), (tG_of (List.mem_of_getElem? (i := 101) (by decide +kernel)) (by decide +kernel)), (tG_of (List.mem_of_getElem? (i := 929) (by decide +kernel)) (by decide +kernel)), ⟨by decide, by decide, by decide +kernel⟩, by decide⟩
theorem mvL_98 : mV R_law 98 mX11_met 2 := ⟨(tG_of (List.mem_of_getElem? (i := 1616) (by decide +kernel)) (by decide +kernel)), (tG_of (List.mem_of_getElem? (i := 1617) (by decide +kernel)) (by decide +kernel)), (tG_of (List.mem_of_getElem? (i := 1618) (by decide +kernel)) (by decide +kernel)), (tG_of (List.mem_of_getElem? (i := 112) (by decide +kernel)) (by decide +kernel)), (tG_of (List.mem_of_getElem? (i := 1619) (by decide +kernel)) (by decide +kernel)), ⟨by decide, by decide, by decide +kernel⟩, by decide⟩
theorem mvL_99 : mV R_law 99 mX10_knot 1 := ⟨(tG_of (List.mem_of_getElem? (i := 943) (by decide +kernel)) (by decide +kernel)), (tG_of (List.mem_of_getElem? (i := 944) (by decide +kernel)) (by decide +kernel)), (tG_of (List.mem_of_getElem? (i := 945) (by decide +kernel)) (by decide +kernel)), (tG_of (List.mem_of_getElem? (i := 101) (by decide +kernel)) (by decide +kernel)), (tG_of (List.mem_of_getElem? (i := 946) (by decide +kernel)) (by decide +kernel)), ⟨by decide, by decide, by decide +kernel⟩, by decide⟩
/-- one call of the face: both systems answer alike, and what couples them holds behind it -/
def sI (Inv Inv' : Mm → Prop) (f g : Mm → Rs) : Prop := ∀ μ, Inv μ → ∃ r μ1 μ2, f μ = some (r, μ1) ∧ g μ1 = some (r, μ2) ∧ Inv' μ2
def sD (Inv Inv' : Mm → Prop) (f g : Mm → Rs) : Prop := ∀ μ, Inv μ → ∃ r μ1 r2 μ2, f μ = some (r, μ1) ∧ g μ1 = some (r2, μ2) ∧ Inv' μ2
def sC (Inv Inv' : Mm → Prop) : Prop := ∀ a, rI a → ∀ μ, Inv μ → ∃ w μ1 b μ2 t μ3, X0_placeOf 5 a μ = some (w, μ1) ∧ X11_crank a μ1 = some (b, μ2) ∧ X11_thrown μ2 = some (t, μ3) ∧ Inv' μ3 ∧ t = (if w = -1 then 1 else 0) ∧ rI w ∧ rI b ∧ (w ≠ -1 → b = w)
def s_feed (Inv Inv' : Mm → Prop) : Prop := ∀ a0, rI a0 → ∀ a1, rI a1 → ∀ a2, rI a2 → ∀ a3, rI a3 → ∀ a4, rI a4 → sD Inv Inv' (X10_feed a0 a1 a2 a3 a4) (X11_feed a0 a1 a2 a3 a4)
def s_end (Inv Inv' : Mm → Prop) : Prop := ∀ a0, rI a0 → sD Inv Inv' (X10_end a0) (X11_end a0)
def s_fault (Inv Inv' : Mm → Prop) : Prop := ∀ a0, rI a0 → sD Inv Inv' (X10_fault a0) (X11_fault a0)
def s_text (Inv Inv' : Mm → Prop) : Prop := ∀ a0, rI a0 → sD Inv Inv' (X10_text a0) (X11_text a0)
def s_at (Inv Inv' : Mm → Prop) : Prop := ∀ a0, rI a0 → sD Inv Inv' (X10_at a0) (X11_at a0)
def s_way (Inv Inv' : Mm → Prop) : Prop := ∀ a0, rI a0 → ∀ a1, rI a1 → sD Inv Inv' (X10_way a0 a1) (X11_way a0 a1)
def s_cue (Inv Inv' : Mm → Prop) : Prop := ∀ a0, rI a0 → ∀ a1, rI a1 → ∀ a2, rI a2 → sD Inv Inv' (X10_cue a0 a1 a2) (X11_cue a0 a1 a2)
def s_set (Inv Inv' : Mm → Prop) : Prop := ∀ a0, rI a0 → ∀ a1, rI a1 → sD Inv Inv' (X10_set a0 a1) (X11_set a0 a1)
def s_wind (Inv Inv' : Mm → Prop) : Prop := ∀ a0, rI a0 → ∀ a1, rI a1 → sD Inv Inv' (X10_wind a0 a1) (X11_wind a0 a1)
def s_swap (Inv Inv' : Mm → Prop) : Prop := ∀ a0, rI a0 → ∀ a1, rI a1 → sD Inv Inv' (X10_swap a0 a1) (X11_swap a0 a1)
def s_knock (Inv Inv' : Mm → Prop) : Prop := ∀ a0, rI a0 → sD Inv Inv' (X10_knock a0) (X11_knock a0)
def s_order (Inv Inv' : Mm → Prop) : Prop := ∀ a0, rI a0 → ∀ a1, rI a1 → ∀ a2, rI a2 → sD Inv Inv' (X10_order a0 a1 a2) (X11_order a0 a1 a2)
def s_done (Inv Inv' : Mm → Prop) : Prop := ∀ a0, rI a0 → ∀ a1, rI a1 → ∀ a2, rI a2 → ∀ a3, rI a3 → sD Inv Inv' (X10_done a0 a1 a2 a3) (X11_done a0 a1 a2 a3)
def s_where (Inv Inv' : Mm → Prop) : Prop := ∀ a0, rI a0 → ∀ a1, rI a1 → ∀ a2, rI a2 → sD Inv Inv' (X10_where a0 a1 a2) (X11_where a0 a1 a2)
def s_best (Inv Inv' : Mm → Prop) : Prop := ∀ a0, rI a0 → ∀ a1, rI a1 → ∀ a2, rI a2 → sD Inv Inv' (X10_best a0 a1 a2) (X11_best a0 a1 a2)
def s_met (Inv Inv' : Mm → Prop) : Prop := ∀ a0, rI a0 → ∀ a1, rI a1 → sD Inv Inv' (X10_met a0 a1) (X11_met a0 a1)
def s_knot (Inv Inv' : Mm → Prop) : Prop := ∀ a0, rI a0 → sD Inv Inv' (X10_knot a0) (X11_knot a0)
def s_age (Inv Inv' : Mm → Prop) : Prop := ∀ a0, rI a0 → sD Inv Inv' (X10_age a0) (X11_age a0)
def s_first (Inv Inv' : Mm → Prop) : Prop := sD Inv Inv' (X10_first) (X11_first)
def s_post (Inv Inv' : Mm → Prop) : Prop := ∀ a0, rI a0 → ∀ a1, rI a1 → sD Inv Inv' (X10_post a0 a1) (X11_post a0 a1)
def s_rope (Inv Inv' : Mm → Prop) : Prop := ∀ a0, rI a0 → ∀ a1, rI a1 → sD Inv Inv' (X10_rope a0 a1) (X11_rope a0 a1)
def s_exchange (Inv Inv' : Mm → Prop) : Prop := ∀ a0, rI a0 → ∀ a1, rI a1 → ∀ a2, rI a2 → sD Inv Inv' (X10_exchange a0 a1 a2) (X11_exchange a0 a1 a2)
def s_skip (Inv Inv' : Mm → Prop) : Prop := ∀ a0, rI a0 → ∀ a1, rI a1 → ∀ a2, rI a2 → sD Inv Inv' (X10_skip a0 a1 a2) (X11_skip a0 a1 a2)
def s_nights (Inv Inv' : Mm → Prop) : Prop := ∀ a0, rI a0 → ∀ a1, rI a1 → ∀ a2, rI a2 → sD Inv Inv' (X10_nights a0 a1 a2) (X11_nights a0 a1 a2)
def s_thud (Inv Inv' : Mm → Prop) : Prop := ∀ a0, rI a0 → ∀ a1, rI a1 → sD Inv Inv' (X10_thud a0 a1) (X11_thud a0 a1)
def s_fit (Inv Inv' : Mm → Prop) : Prop := ∀ a0, rI a0 → ∀ a1, rI a1 → sD Inv Inv' (X10_fit a0 a1) (X11_fit a0 a1)
def s_boy (Inv Inv' : Mm → Prop) : Prop := ∀ a0, rI a0 → ∀ a1, rI a1 → ∀ a2, rI a2 → ∀ a3, rI a3 → sD Inv Inv' (X10_boy a0 a1 a2 a3) (X11_boy a0 a1 a2 a3)
def s_out (Inv Inv' : Mm → Prop) : Prop := ∀ a0, rI a0 → sD Inv Inv' (X10_out a0) (X11_out a0)
def s_walk (Inv Inv' : Mm → Prop) : Prop := ∀ a0, rI a0 → ∀ a1, rI a1 → ∀ a2, rI a2 → sD Inv Inv' (X10_walk a0 a1 a2) (X11_walk a0 a1 a2)
def s_mend (Inv Inv' : Mm → Prop) : Prop := ∀ a0, rI a0 → ∀ a1, rI a1 → ∀ a2, rI a2 → sD Inv Inv' (X10_mend a0 a1 a2) (X11_mend a0 a1 a2)
def s_slack (Inv Inv' : Mm → Prop) : Prop := ∀ a0, rI a0 → ∀ a1, rI a1 → sD Inv Inv' (X10_slack a0 a1) (X11_slack a0 a1)
def s_urgent (Inv Inv' : Mm → Prop) : Prop := ∀ a0, rI a0 → sD Inv Inv' (X10_urgent a0) (X11_urgent a0)
def s_dead (Inv Inv' : Mm → Prop) : Prop := sD Inv Inv' (X10_dead) (X11_dead)
def s_pillar (Inv Inv' : Mm → Prop) : Prop := ∀ a0, rI a0 → ∀ a1, rI a1 → sD Inv Inv' (X10_pillar a0 a1) (X11_pillar a0 a1)
def s_image (Inv Inv' : Mm → Prop) : Prop := sD Inv Inv' (X10_image) (X11_image)
def s_back (Inv Inv' : Mm → Prop) : Prop := sD Inv Inv' (X10_back) (X11_back)
def s_count (Inv Inv' : Mm → Prop) : Prop := ∀ a0, rI a0 → sD Inv Inv' (X10_count a0) (X11_count a0)
def sAll (Inv Inv' : Mm → Prop) : Prop := (∀ μ, Inv μ → Inv' μ) ∧ sC Inv Inv' ∧ s_feed Inv Inv' ∧ s_end Inv Inv' ∧ s_fault Inv Inv' ∧ s_text Inv Inv' ∧ s_at Inv Inv' ∧ s_way Inv Inv' ∧ s_cue Inv Inv' ∧ s_set Inv Inv' ∧ s_wind Inv Inv' ∧ s_swap Inv Inv' ∧ s_knock Inv Inv' ∧ s_order Inv Inv' ∧ s_done Inv Inv' ∧ s_where Inv Inv' ∧ s_best Inv Inv' ∧ s_met Inv Inv' ∧ s_knot Inv Inv' ∧ s_age Inv Inv' ∧ s_first Inv Inv' ∧ s_post Inv Inv' ∧ s_rope Inv Inv' ∧ s_exchange Inv Inv' ∧ s_skip Inv Inv' ∧ s_nights Inv Inv' ∧ s_thud Inv Inv' ∧ s_fit Inv Inv' ∧ s_boy Inv Inv' ∧ s_out Inv Inv' ∧ s_walk Inv Inv' ∧ s_mend Inv Inv' ∧ s_slack Inv Inv' ∧ s_urgent Inv Inv' ∧ s_dead Inv Inv' ∧ s_pillar Inv Inv' ∧ s_image Inv Inv' ∧ s_back Inv Inv' ∧ s_count Inv Inv'

/-- the law's own crank, open: its two ways back -/
def HCr : Prop := ∀ (L : Nat) (sc : Nat → Int) (ls : List (Option AV)) (μ μ1 : Mm) (v : Int64) (k n : Nat) (a w : Int), X0_placeOf 5 a μ = some (w, μ1) → k + 1 ≤ 601024 → n + 10 ≤ 7293034 →
  (∀ v' : Int64, w = -1 → LL L sc 367 ls [vI 1] μ1 v' (k + 1) (n + 10)) → (w ≠ -1 → LL L sc 367 ls [vI 0] μ1 (Int64.ofInt w) (k + 1) (n + 10)) → LL L sc 364 ls [vR 98, vI a, vR 0] μ v k n
section LR2
variable {L : Nat} {sc : Nat → Int} {pc q : Nat} {ls : List (Option AV)} {st : List AV} {μ : Mm} {v : Int64} {k n : Nat}
theorem L_laload (hd : decode code pc = .ok (.laload, 1)) (hq : pc + 1 = q) (kk : LL L sc q ls (vL v.toInt :: st) μ v k n) : LL L sc pc ls (vI 0 :: vR 98 :: st) μ v k n := by
  subst hq
  intro p l e s m below meth c b xs H locs dC dI D cL ad ls' X hxs hH hL hS hn hl hs
  have kk2 := kk p l e s m below meth c b xs H locs dC dI D cL ad ls' X hxs hH hL hS hn hl (ok_c (v := vL v.toInt) (rL_of v) (ok_t (ok_t hs)))
  have hP1 : va_P (dC, dI) vwCl [(ad 98, .inl (cL, 1, .inr (.inl (fun _ => v))))] H := by
    intro k q hk
    match k, hk with
    | 0, hk => cases hk; exact hL.1
    | k + 1, hk => simp at hk
  refine va_lald X.1.1 X.1.2.1 X.2.2.1 hP1 0 3 rfl rfl (i := Int32.ofInt 0) (o32_in rI_0 (by decide)) hd ?_
  have e1 : (vL v.toInt :: st).map (cV ad) = .long v :: st.map (cV ad) := by
    show Value.long (Int64.ofInt v.toInt) :: _ = _
    rw [Int64.ofInt_toInt]
  rw [e1] at kk2
  exact kk2
theorem L_pop {v1 : AV} (hd : decode code pc = .ok (.pop, 1)) (hv : c1 v1) (hq : pc + 1 = q) (kk : LL L sc q ls st μ v k n) : LL L sc pc ls (v1 :: st) μ v k n := by
  subst hq
  refine LL_pure (st2 := st) (fun h => ok_t h) (fun p l e R s m args below meth c H locs k n Q ad ls' hx hb h kk => ?_) kk
  exact lv_pop hx hb hd (c1_cat hv ad) kk
theorem L_i2l {a : Int} (hd : decode code pc = .ok (.i2l, 1)) (hq : pc + 1 = q) (kk : LL L sc q ls (vL a :: st) μ v k n) : LL L sc pc ls (vI a :: st) μ v k n := by
  subst hq
  refine LL_pure (st2 := vL a :: st) (fun h => ok_c (rI_rL (ok_h h)) (ok_t h)) (fun p l e R s m args below meth c H locs k n Q ad ls' hx hb h kk => ?_) kk
  exact lv_i2l hx hb hd (o32_i2l (ok_h h)) kk
theorem L_lcmp {a b : Int} (hd : decode code pc = .ok (.lcmp, 1)) (hq : pc + 1 = q) (kk : LL L sc q ls (vI (lC a b) :: st) μ v k n) : LL L sc pc ls (vL b :: vL a :: st) μ v k n := by
  subst hq
  intro p l e s m below meth c b' xs H locs dC dI D cL ad ls' X hxs hH hL hS hn hl hs
  exact W.lcmp (pc := pc) (ls := ls') (rest := st.map (cV ad)) (x := Int64.ofInt a) (y := Int64.ofInt b) X.1.1 X.1.2.1 hd (by
    rw [o32_lcmp (ok_h (ok_t hs)) (ok_h hs)]
    exact kk p l e s m below meth c b' xs H locs dC dI D cL ad ls' X hxs hH hL hS hn hl (ok_c (v := vI (lC a b)) (by simp only [oV, rI, lC]; split <;> (try split) <;> omega) (ok_t (ok_t hs))))
theorem L_ifeq {a : Int} {off : Int} (hd : decode code pc = .ok (.ifCond .eq off, 3)) (ht : (pc : Int) + off = (q : Int)) {q2 : Nat} (hq : pc + 3 = q2) (kt : a = 0 → LL L sc q ls st μ v k n) (kf : ¬ a = 0 → LL L sc q2 ls st μ v k n) : LL L sc pc ls (vI a :: st) μ v k n := by
  subst hq
  refine LL_br (st2 := st) (fun h => ok_t h) (fun p l e R s m args below meth c H locs k n Q ad ls' hx hb h k1 k2 => ?_) kt kf
  exact lv_if_eq hx hb hd ht (fun z => k1 ((o32_eq (ok_h h) rI_0).mp z)) (fun z => k2 (fun w => z ((o32_eq (ok_h h) rI_0).mpr w)))
theorem L_ifne {a : Int} {off : Int} (hd : decode code pc = .ok (.ifCond .ne off, 3)) (ht : (pc : Int) + off = (q : Int)) {q2 : Nat} (hq : pc + 3 = q2) (kt : ¬ a = 0 → LL L sc q ls st μ v k n) (kf : a = 0 → LL L sc q2 ls st μ v k n) : LL L sc pc ls (vI a :: st) μ v k n := by
  subst hq
  refine LL_br (st2 := st) (fun h => ok_t h) (fun p l e R s m args below meth c H locs k n Q ad ls' hx hb h k1 k2 => ?_) kf kt
  exact lv_if_ne hx hb hd ht (fun z => k2 (fun w => z ((o32_eq (ok_h h) rI_0).mpr w))) (fun z => k1 ((o32_eq (ok_h h) rI_0).mp z))
end LR2

set_option maxHeartbeats 4000000 in
set_option maxRecDepth 100000 in
theorem law_case_feed {Inv Inv' : Mm → Prop} (hst : s_feed Inv Inv') {L i : Nat} {sc : Nat → Int} {μ : Mm} {v : Int64} {k n : Nat} (hL : L ≤ 3072) (hi : i + 6 ≤ L) (hsc : ∀ j, rI (sc j)) (hI : Inv μ) (hk : k ≤ 500000 ∧ n ≤ 5000000) (hgo : ∀ μ2, Inv' μ2 → LL L sc 1609 [some (vR 99), some (vR 0), some (vR 70), some (vR 98), some (vI (i : Int)), none, none] [] μ2 v k n) : LL L sc 208 [some (vR 99), some (vR 0), some (vR 70), some (vR 98), some (vI (i : Int)), none, none] [] μ v k n := by
  have e_1 : iA (i : Int) 1 = ((i + 1 : Nat) : Int) := by rw [iA, wI_id (by omega) (by omega)]; omega
  have e_2 : iA (i : Int) 2 = ((i + 2 : Nat) : Int) := by rw [iA, wI_id (by omega) (by omega)]; omega
  have e_3 : iA (i : Int) 3 = ((i + 3 : Nat) : Int) := by rw [iA, wI_id (by omega) (by omega)]; omega
  have e_4 : iA (i : Int) 4 = ((i + 4 : Nat) : Int) := by rw [iA, wI_id (by omega) (by omega)]; omega
  have e_5 : iA (i : Int) 5 = ((i + 5 : Nat) : Int) := by rw [iA, wI_id (by omega) (by omega)]; omega
  obtain ⟨r, μ1, r2, μ2, hf, hg, hI⟩ := hst (sc (((i + 1 : Nat) : Int).toNat)) (hsc _) (sc (((i + 2 : Nat) : Int).toNat)) (hsc _) (sc (((i + 3 : Nat) : Int).toNat)) (hsc _) (sc (((i + 4 : Nat) : Int).toNat)) (hsc _) (sc (((i + 5 : Nat) : Int).toNat)) (hsc _) μ hI
  refine L_aload_n (q := 209) dL_law_208 rfl rfl rfl ?_
  refine L_aload_n (q := 210) dL_law_209 rfl rfl rfl ?_
  refine L_iload (q := 212) dL_law_210 rfl rfl ?_
  refine L_iconst (q := 213) dL_law_212 rfl rfl ?_
  refine L_iadd (q := 214) dL_law_213 rfl ?_
  rw [e_1]
  refine L_sld (q := 215) dL_law_214 (by omega) rfl ?_
  refine L_aload_n (q := 216) dL_law_215 rfl rfl rfl ?_
  refine L_iload (q := 218) dL_law_216 rfl rfl ?_
  refine L_iconst (q := 219) dL_law_218 rfl rfl ?_
  refine L_iadd (q := 220) dL_law_219 rfl ?_
  rw [e_2]
  refine L_sld (q := 221) dL_law_220 (by omega) rfl ?_
  refine L_aload_n (q := 222) dL_law_221 rfl rfl rfl ?_
  refine L_iload (q := 224) dL_law_222 rfl rfl ?_
  refine L_iconst (q := 225) dL_law_224 rfl rfl ?_
  refine L_iadd (q := 226) dL_law_225 rfl ?_
  rw [e_3]
  refine L_sld (q := 227) dL_law_226 (by omega) rfl ?_
  refine L_aload_n (q := 228) dL_law_227 rfl rfl rfl ?_
  refine L_iload (q := 230) dL_law_228 rfl rfl ?_
  refine L_iconst (q := 231) dL_law_230 rfl rfl ?_
  refine L_iadd (q := 232) dL_law_231 rfl ?_
  rw [e_4]
  refine L_sld (q := 233) dL_law_232 (by omega) rfl ?_
  refine L_aload_n (q := 234) dL_law_233 rfl rfl rfl ?_
  refine L_iload (q := 236) dL_law_234 rfl rfl ?_
  refine L_iconst (q := 237) dL_law_236 rfl rfl ?_
  refine L_iadd (q := 238) dL_law_237 rfl ?_
  rw [e_5]
  refine L_sld (q := 239) dL_law_238 (by omega) rfl ?_
  refine L_call (q := 242) (vI r) (kX10_feed 2 (by decide) hf) (by decide) mvL_19 (rfl : kD 0 = (10 + 10, 18)) rfl rfl rfl rfl rfl (by omega) dL_law_239 rfl ?_
  refine L_pop (q := 243) dL_law_242 trivial rfl ?_
  refine L_aload_n (q := 244) dL_law_243 rfl rfl rfl ?_
  refine L_aload_n (q := 245) dL_law_244 rfl rfl rfl ?_
  refine L_iload (q := 247) dL_law_245 rfl rfl ?_
  refine L_iconst (q := 248) dL_law_247 rfl rfl ?_
  refine L_iadd (q := 249) dL_law_248 rfl ?_
  rw [e_1]
  refine L_sld (q := 250) dL_law_249 (by omega) rfl ?_
  refine L_aload_n (q := 251) dL_law_250 rfl rfl rfl ?_
  refine L_iload (q := 253) dL_law_251 rfl rfl ?_
  refine L_iconst (q := 254) dL_law_253 rfl rfl ?_
  refine L_iadd (q := 255) dL_law_254 rfl ?_
  rw [e_2]
  refine L_sld (q := 256) dL_law_255 (by omega) rfl ?_
  refine L_aload_n (q := 257) dL_law_256 rfl rfl rfl ?_
  refine L_iload (q := 259) dL_law_257 rfl rfl ?_
  refine L_iconst (q := 260) dL_law_259 rfl rfl ?_
  refine L_iadd (q := 261) dL_law_260 rfl ?_
  rw [e_3]
  refine L_sld (q := 262) dL_law_261 (by omega) rfl ?_
  refine L_aload_n (q := 263) dL_law_262 rfl rfl rfl ?_
  refine L_iload (q := 265) dL_law_263 rfl rfl ?_
  refine L_iconst (q := 266) dL_law_265 rfl rfl ?_
  refine L_iadd (q := 267) dL_law_266 rfl ?_
  rw [e_4]
  refine L_sld (q := 268) dL_law_267 (by omega) rfl ?_
  refine L_aload_n (q := 269) dL_law_268 rfl rfl rfl ?_
  refine L_iload (q := 271) dL_law_269 rfl rfl ?_
  refine L_iconst (q := 272) dL_law_271 rfl rfl ?_
  refine L_iadd (q := 273) dL_law_272 rfl ?_
  rw [e_5]
  refine L_sld (q := 274) dL_law_273 (by omega) rfl ?_
  refine L_call (q := 277) (vI r2) (kX11_feed 2 (by decide) hg) (by decide) mvL_23 (rfl : kD 70 = (11 + 10, 54)) rfl rfl rfl rfl rfl (by omega) dL_law_274 rfl ?_
  refine L_pop (q := 278) dL_law_277 trivial rfl ?_
  refine L_goto (q := 1609) dL_law_278 (by decide) ?_
  exact hgo _ hI

set_option maxHeartbeats 4000000 in
set_option maxRecDepth 100000 in
theorem law_case_end {Inv Inv' : Mm → Prop} (hst : s_end Inv Inv') {L i : Nat} {sc : Nat → Int} {μ : Mm} {v : Int64} {k n : Nat} (hL : L ≤ 3072) (hi : i + 6 ≤ L) (hsc : ∀ j, rI (sc j)) (hI : Inv μ) (hk : k ≤ 500000 ∧ n ≤ 5000000) (hgo : ∀ μ2, Inv' μ2 → LL L sc 1609 [some (vR 99), some (vR 0), some (vR 70), some (vR 98), some (vI (i : Int)), none, none] [] μ2 v k n) : LL L sc 281 [some (vR 99), some (vR 0), some (vR 70), some (vR 98), some (vI (i : Int)), none, none] [] μ v k n := by
  have e_1 : iA (i : Int) 1 = ((i + 1 : Nat) : Int) := by rw [iA, wI_id (by omega) (by omega)]; omega
  obtain ⟨r, μ1, r2, μ2, hf, hg, hI⟩ := hst (sc (((i + 1 : Nat) : Int).toNat)) (hsc _) μ hI
  refine L_aload_n (q := 282) dL_law_281 rfl rfl rfl ?_
  refine L_aload_n (q := 283) dL_law_282 rfl rfl rfl ?_
  refine L_iload (q := 285) dL_law_283 rfl rfl ?_
  refine L_iconst (q := 286) dL_law_285 rfl rfl ?_
  refine L_iadd (q := 287) dL_law_286 rfl ?_
  rw [e_1]
  refine L_sld (q := 288) dL_law_287 (by omega) rfl ?_
  refine L_call (q := 291) (vI r) (kX10_end 2 (by decide) hf) (by decide) mvL_24 (rfl : kD 0 = (10 + 10, 18)) rfl rfl rfl rfl rfl (by omega) dL_law_288 rfl ?_
  refine L_pop (q := 292) dL_law_291 trivial rfl ?_
  refine L_aload_n (q := 293) dL_law_292 rfl rfl rfl ?_
  refine L_aload_n (q := 294) dL_law_293 rfl rfl rfl ?_
  refine L_iload (q := 296) dL_law_294 rfl rfl ?_
  refine L_iconst (q := 297) dL_law_296 rfl rfl ?_
  refine L_iadd (q := 298) dL_law_297 rfl ?_
  rw [e_1]
  refine L_sld (q := 299) dL_law_298 (by omega) rfl ?_
  refine L_call (q := 302) (vI r2) (kX11_end 1 (by decide) hg) (by decide) mvL_28 (rfl : kD 70 = (11 + 10, 54)) rfl rfl rfl rfl rfl (by omega) dL_law_299 rfl ?_
  refine L_pop (q := 303) dL_law_302 trivial rfl ?_
  refine L_goto (q := 1609) dL_law_303 (by decide) ?_
  exact hgo _ hI

set_option maxHeartbeats 4000000 in
set_option maxRecDepth 100000 in
theorem law_case_fault {Inv Inv' : Mm → Prop} (hst : s_fault Inv Inv') {L i : Nat} {sc : Nat → Int} {μ : Mm} {v : Int64} {k n : Nat} (hL : L ≤ 3072) (hi : i + 6 ≤ L) (hsc : ∀ j, rI (sc j)) (hI : Inv μ) (hk : k ≤ 500000 ∧ n ≤ 5000000) (hgo : ∀ μ2, Inv' μ2 → LL L sc 1609 [some (vR 99), some (vR 0), some (vR 70), some (vR 98), some (vI (i : Int)), none, none] [] μ2 v k n) : LL L sc 306 [some (vR 99), some (vR 0), some (vR 70), some (vR 98), some (vI (i : Int)), none, none] [] μ v k n := by
  have e_1 : iA (i : Int) 1 = ((i + 1 : Nat) : Int) := by rw [iA, wI_id (by omega) (by omega)]; omega
  obtain ⟨r, μ1, r2, μ2, hf, hg, hI⟩ := hst (sc (((i + 1 : Nat) : Int).toNat)) (hsc _) μ hI
  refine L_aload_n (q := 307) dL_law_306 rfl rfl rfl ?_
  refine L_aload_n (q := 308) dL_law_307 rfl rfl rfl ?_
  refine L_iload (q := 310) dL_law_308 rfl rfl ?_
  refine L_iconst (q := 311) dL_law_310 rfl rfl ?_
  refine L_iadd (q := 312) dL_law_311 rfl ?_
  rw [e_1]
  refine L_sld (q := 313) dL_law_312 (by omega) rfl ?_
  refine L_call (q := 316) (vI r) (kX10_fault 272 (by decide) hf) (by decide) mvL_29 (rfl : kD 0 = (10 + 10, 18)) rfl rfl rfl rfl rfl (by omega) dL_law_313 rfl ?_
  refine L_pop (q := 317) dL_law_316 trivial rfl ?_
  refine L_aload_n (q := 318) dL_law_317 rfl rfl rfl ?_
  refine L_aload_n (q := 319) dL_law_318 rfl rfl rfl ?_
  refine L_iload (q := 321) dL_law_319 rfl rfl ?_
  refine L_iconst (q := 322) dL_law_321 rfl rfl ?_
  refine L_iadd (q := 323) dL_law_322 rfl ?_
  rw [e_1]
  refine L_sld (q := 324) dL_law_323 (by omega) rfl ?_
  refine L_call (q := 327) (vI r2) (kX11_fault 273 (by decide) hg) (by decide) mvL_32 (rfl : kD 70 = (11 + 10, 54)) rfl rfl rfl rfl rfl (by omega) dL_law_324 rfl ?_
  refine L_pop (q := 328) dL_law_327 trivial rfl ?_
  refine L_goto (q := 1609) dL_law_328 (by decide) ?_
  exact hgo _ hI

set_option maxHeartbeats 4000000 in
set_option maxRecDepth 100000 in
theorem law_case_text {Inv Inv' : Mm → Prop} (hst : s_text Inv Inv') {L i : Nat} {sc : Nat → Int} {μ : Mm} {v : Int64} {k n : Nat} (hL : L ≤ 3072) (hi : i + 6 ≤ L) (hsc : ∀ j, rI (sc j)) (hI : Inv μ) (hk : k ≤ 500000 ∧ n ≤ 5000000) (hgo : ∀ μ2, Inv' μ2 → LL L sc 1609 [some (vR 99), some (vR 0), some (vR 70), some (vR 98), some (vI (i : Int)), none, none] [] μ2 v k n) : LL L sc 331 [some (vR 99), some (vR 0), some (vR 70), some (vR 98), some (vI (i : Int)), none, none] [] μ v k n := by
  have e_1 : iA (i : Int) 1 = ((i + 1 : Nat) : Int) := by rw [iA, wI_id (by omega) (by omega)]; omega
  obtain ⟨r, μ1, r2, μ2, hf, hg, hI⟩ := hst (sc (((i + 1 : Nat) : Int).toNat)) (hsc _) μ hI
  refine L_aload_n (q := 332) dL_law_331 rfl rfl rfl ?_
  refine L_aload_n (q := 333) dL_law_332 rfl rfl rfl ?_
  refine L_iload (q := 335) dL_law_333 rfl rfl ?_
  refine L_iconst (q := 336) dL_law_335 rfl rfl ?_
  refine L_iadd (q := 337) dL_law_336 rfl ?_
  rw [e_1]
  refine L_sld (q := 338) dL_law_337 (by omega) rfl ?_
  refine L_call (q := 341) (vI r) (kX10_text 272 (by decide) hf) (by decide) mvL_33 (rfl : kD 0 = (10 + 10, 18)) rfl rfl rfl rfl rfl (by omega) dL_law_338 rfl ?_
  refine L_pop (q := 342) dL_law_341 trivial rfl ?_
  refine L_aload_n (q := 343) dL_law_342 rfl rfl rfl ?_
  refine L_aload_n (q := 344) dL_law_343 rfl rfl rfl ?_
  refine L_iload (q := 346) dL_law_344 rfl rfl ?_
  refine L_iconst (q := 347) dL_law_346 rfl rfl ?_
  refine L_iadd (q := 348) dL_law_347 rfl ?_
  rw [e_1]
  refine L_sld (q := 349) dL_law_348 (by omega) rfl ?_
  refine L_call (q := 352) (vI r2) (kX11_text 273 (by decide) hg) (by decide) mvL_36 (rfl : kD 70 = (11 + 10, 54)) rfl rfl rfl rfl rfl (by omega) dL_law_349 rfl ?_
  refine L_pop (q := 353) dL_law_352 trivial rfl ?_
  refine L_goto (q := 1609) dL_law_353 (by decide) ?_
  exact hgo _ hI

set_option maxHeartbeats 4000000 in
set_option maxRecDepth 100000 in
theorem law_case_at {Inv Inv' : Mm → Prop} (hst : s_at Inv Inv') {L i : Nat} {sc : Nat → Int} {μ : Mm} {v : Int64} {k n : Nat} (hL : L ≤ 3072) (hi : i + 6 ≤ L) (hsc : ∀ j, rI (sc j)) (hI : Inv μ) (hk : k ≤ 500000 ∧ n ≤ 5000000) (hgo : ∀ μ2, Inv' μ2 → LL L sc 1609 [some (vR 99), some (vR 0), some (vR 70), some (vR 98), some (vI (i : Int)), none, none] [] μ2 v k n) : LL L sc 412 [some (vR 99), some (vR 0), some (vR 70), some (vR 98), some (vI (i : Int)), none, none] [] μ v k n := by
  have e_1 : iA (i : Int) 1 = ((i + 1 : Nat) : Int) := by rw [iA, wI_id (by omega) (by omega)]; omega
  obtain ⟨r, μ1, r2, μ2, hf, hg, hI⟩ := hst (sc (((i + 1 : Nat) : Int).toNat)) (hsc _) μ hI
  refine L_aload_n (q := 413) dL_law_412 rfl rfl rfl ?_
  refine L_aload_n (q := 414) dL_law_413 rfl rfl rfl ?_
  refine L_iload (q := 416) dL_law_414 rfl rfl ?_
  refine L_iconst (q := 417) dL_law_416 rfl rfl ?_
  refine L_iadd (q := 418) dL_law_417 rfl ?_
  rw [e_1]
  refine L_sld (q := 419) dL_law_418 (by omega) rfl ?_
  refine L_call (q := 422) (vI r) (kX10_at 2 (by decide) hf) (by decide) mvL_47 (rfl : kD 0 = (10 + 10, 18)) rfl rfl rfl rfl rfl (by omega) dL_law_419 rfl ?_
  refine L_pop (q := 423) dL_law_422 trivial rfl ?_
  refine L_aload_n (q := 424) dL_law_423 rfl rfl rfl ?_
  refine L_aload_n (q := 425) dL_law_424 rfl rfl rfl ?_
  refine L_iload (q := 427) dL_law_425 rfl rfl ?_
  refine L_iconst (q := 428) dL_law_427 rfl rfl ?_
  refine L_iadd (q := 429) dL_law_428 rfl ?_
  rw [e_1]
  refine L_sld (q := 430) dL_law_429 (by omega) rfl ?_
  refine L_call (q := 433) (vI r2) (kX11_at 2 (by decide) hg) (by decide) mvL_50 (rfl : kD 70 = (11 + 10, 54)) rfl rfl rfl rfl rfl (by omega) dL_law_430 rfl ?_
  refine L_pop (q := 434) dL_law_433 trivial rfl ?_
  refine L_goto (q := 1609) dL_law_434 (by decide) ?_
  exact hgo _ hI

set_option maxHeartbeats 4000000 in
set_option maxRecDepth 100000 in
theorem law_case_way {Inv Inv' : Mm → Prop} (hst : s_way Inv Inv') {L i : Nat} {sc : Nat → Int} {μ : Mm} {v : Int64} {k n : Nat} (hL : L ≤ 3072) (hi : i + 6 ≤ L) (hsc : ∀ j, rI (sc j)) (hI : Inv μ) (hk : k ≤ 500000 ∧ n ≤ 5000000) (hgo : ∀ μ2, Inv' μ2 → LL L sc 1609 [some (vR 99), some (vR 0), some (vR 70), some (vR 98), some (vI (i : Int)), none, none] [] μ2 v k n) : LL L sc 437 [some (vR 99), some (vR 0), some (vR 70), some (vR 98), some (vI (i : Int)), none, none] [] μ v k n := by
  have e_1 : iA (i : Int) 1 = ((i + 1 : Nat) : Int) := by rw [iA, wI_id (by omega) (by omega)]; omega
  have e_2 : iA (i : Int) 2 = ((i + 2 : Nat) : Int) := by rw [iA, wI_id (by omega) (by omega)]; omega
  obtain ⟨r, μ1, r2, μ2, hf, hg, hI⟩ := hst (sc (((i + 1 : Nat) : Int).toNat)) (hsc _) (sc (((i + 2 : Nat) : Int).toNat)) (hsc _) μ hI
  refine L_aload_n (q := 438) dL_law_437 rfl rfl rfl ?_
  refine L_aload_n (q := 439) dL_law_438 rfl rfl rfl ?_
  refine L_iload (q := 441) dL_law_439 rfl rfl ?_
  refine L_iconst (q := 442) dL_law_441 rfl rfl ?_
  refine L_iadd (q := 443) dL_law_442 rfl ?_
  rw [e_1]
  refine L_sld (q := 444) dL_law_443 (by omega) rfl ?_
  refine L_aload_n (q := 445) dL_law_444 rfl rfl rfl ?_
  refine L_iload (q := 447) dL_law_445 rfl rfl ?_
  refine L_iconst (q := 448) dL_law_447 rfl rfl ?_
  refine L_iadd (q := 449) dL_law_448 rfl ?_
  rw [e_2]
  refine L_sld (q := 450) dL_law_449 (by omega) rfl ?_
  refine L_call (q := 453) (vI r) (kX10_way 4 (by decide) hf) (by decide) mvL_51 (rfl : kD 0 = (10 + 10, 18)) rfl rfl rfl rfl rfl (by omega) dL_law_450 rfl ?_
  refine L_pop (q := 454) dL_law_453 trivial rfl ?_
  refine L_aload_n (q := 455) dL_law_454 rfl rfl rfl ?_
  refine L_aload_n (q := 456) dL_law_455 rfl rfl rfl ?_
  refine L_iload (q := 458) dL_law_456 rfl rfl ?_
  refine L_iconst (q := 459) dL_law_458 rfl rfl ?_
  refine L_iadd (q := 460) dL_law_459 rfl ?_
  rw [e_1]
  refine L_sld (q := 461) dL_law_460 (by omega) rfl ?_
  refine L_aload_n (q := 462) dL_law_461 rfl rfl rfl ?_
  refine L_iload (q := 464) dL_law_462 rfl rfl ?_
  refine L_iconst (q := 465) dL_law_464 rfl rfl ?_
  refine L_iadd (q := 466) dL_law_465 rfl ?_
  rw [e_2]
  refine L_sld (q := 467) dL_law_466 (by omega) rfl ?_
  refine L_call (q := 470) (vI r2) (kX11_way 4 (by decide) hg) (by decide) mvL_55 (rfl : kD 70 = (11 + 10, 54)) rfl rfl rfl rfl rfl (by omega) dL_law_467 rfl ?_
  refine L_pop (q := 471) dL_law_470 trivial rfl ?_
  refine L_goto (q := 1609) dL_law_471 (by decide) ?_
  exact hgo _ hI

set_option maxHeartbeats 4000000 in
set_option maxRecDepth 100000 in
theorem law_case_cue {Inv Inv' : Mm → Prop} (hst : s_cue Inv Inv') {L i : Nat} {sc : Nat → Int} {μ : Mm} {v : Int64} {k n : Nat} (hL : L ≤ 3072) (hi : i + 6 ≤ L) (hsc : ∀ j, rI (sc j)) (hI : Inv μ) (hk : k ≤ 500000 ∧ n ≤ 5000000) (hgo : ∀ μ2, Inv' μ2 → LL L sc 1609 [some (vR 99), some (vR 0), some (vR 70), some (vR 98), some (vI (i : Int)), none, none] [] μ2 v k n) : LL L sc 474 [some (vR 99), some (vR 0), some (vR 70), some (vR 98), some (vI (i : Int)), none, none] [] μ v k n := by
  have e_1 : iA (i : Int) 1 = ((i + 1 : Nat) : Int) := by rw [iA, wI_id (by omega) (by omega)]; omega
  have e_2 : iA (i : Int) 2 = ((i + 2 : Nat) : Int) := by rw [iA, wI_id (by omega) (by omega)]; omega
  have e_3 : iA (i : Int) 3 = ((i + 3 : Nat) : Int) := by rw [iA, wI_id (by omega) (by omega)]; omega
  obtain ⟨r, μ1, r2, μ2, hf, hg, hI⟩ := hst (sc (((i + 1 : Nat) : Int).toNat)) (hsc _) (sc (((i + 2 : Nat) : Int).toNat)) (hsc _) (sc (((i + 3 : Nat) : Int).toNat)) (hsc _) μ hI
  refine L_aload_n (q := 475) dL_law_474 rfl rfl rfl ?_
  refine L_aload_n (q := 476) dL_law_475 rfl rfl rfl ?_
  refine L_iload (q := 478) dL_law_476 rfl rfl ?_
  refine L_iconst (q := 479) dL_law_478 rfl rfl ?_
  refine L_iadd (q := 480) dL_law_479 rfl ?_
  rw [e_1]
  refine L_sld (q := 481) dL_law_480 (by omega) rfl ?_
  refine L_aload_n (q := 482) dL_law_481 rfl rfl rfl ?_
  refine L_iload (q := 484) dL_law_482 rfl rfl ?_
  refine L_iconst (q := 485) dL_law_484 rfl rfl ?_
  refine L_iadd (q := 486) dL_law_485 rfl ?_
  rw [e_2]
  refine L_sld (q := 487) dL_law_486 (by omega) rfl ?_
  refine L_aload_n (q := 488) dL_law_487 rfl rfl rfl ?_
  refine L_iload (q := 490) dL_law_488 rfl rfl ?_
  refine L_iconst (q := 491) dL_law_490 rfl rfl ?_
  refine L_iadd (q := 492) dL_law_491 rfl ?_
  rw [e_3]
  refine L_sld (q := 493) dL_law_492 (by omega) rfl ?_
  refine L_call (q := 496) (vI r) (kX10_cue 271 (by decide) hf) (by decide) mvL_56 (rfl : kD 0 = (10 + 10, 18)) rfl rfl rfl rfl rfl (by omega) dL_law_493 rfl ?_
  refine L_pop (q := 497) dL_law_496 trivial rfl ?_
  refine L_aload_n (q := 498) dL_law_497 rfl rfl rfl ?_
  refine L_aload_n (q := 499) dL_law_498 rfl rfl rfl ?_
  refine L_iload (q := 501) dL_law_499 rfl rfl ?_
  refine L_iconst (q := 502) dL_law_501 rfl rfl ?_
  refine L_iadd (q := 503) dL_law_502 rfl ?_
  rw [e_1]
  refine L_sld (q := 504) dL_law_503 (by omega) rfl ?_
  refine L_aload_n (q := 505) dL_law_504 rfl rfl rfl ?_
  refine L_iload (q := 507) dL_law_505 rfl rfl ?_
  refine L_iconst (q := 508) dL_law_507 rfl rfl ?_
  refine L_iadd (q := 509) dL_law_508 rfl ?_
  rw [e_2]
  refine L_sld (q := 510) dL_law_509 (by omega) rfl ?_
  refine L_aload_n (q := 511) dL_law_510 rfl rfl rfl ?_
  refine L_iload (q := 513) dL_law_511 rfl rfl ?_
  refine L_iconst (q := 514) dL_law_513 rfl rfl ?_
  refine L_iadd (q := 515) dL_law_514 rfl ?_
  rw [e_3]
  refine L_sld (q := 516) dL_law_515 (by omega) rfl ?_
  refine L_call (q := 519) (vI r2) (kX11_cue 6 (by decide) hg) (by decide) mvL_60 (rfl : kD 70 = (11 + 10, 54)) rfl rfl rfl rfl rfl (by omega) dL_law_516 rfl ?_
  refine L_pop (q := 520) dL_law_519 trivial rfl ?_
  refine L_goto (q := 1609) dL_law_520 (by decide) ?_
  exact hgo _ hI

set_option maxHeartbeats 4000000 in
set_option maxRecDepth 100000 in
theorem law_case_set {Inv Inv' : Mm → Prop} (hst : s_set Inv Inv') {L i : Nat} {sc : Nat → Int} {μ : Mm} {v : Int64} {k n : Nat} (hL : L ≤ 3072) (hi : i + 6 ≤ L) (hsc : ∀ j, rI (sc j)) (hI : Inv μ) (hk : k ≤ 500000 ∧ n ≤ 5000000) (hgo : ∀ μ2, Inv' μ2 → LL L sc 1609 [some (vR 99), some (vR 0), some (vR 70), some (vR 98), some (vI (i : Int)), none, none] [] μ2 v k n) : LL L sc 523 [some (vR 99), some (vR 0), some (vR 70), some (vR 98), some (vI (i : Int)), none, none] [] μ v k n := by
  have e_1 : iA (i : Int) 1 = ((i + 1 : Nat) : Int) := by rw [iA, wI_id (by omega) (by omega)]; omega
  have e_2 : iA (i : Int) 2 = ((i + 2 : Nat) : Int) := by rw [iA, wI_id (by omega) (by omega)]; omega
  obtain ⟨r, μ1, r2, μ2, hf, hg, hI⟩ := hst (sc (((i + 1 : Nat) : Int).toNat)) (hsc _) (sc (((i + 2 : Nat) : Int).toNat)) (hsc _) μ hI
  refine L_aload_n (q := 524) dL_law_523 rfl rfl rfl ?_
  refine L_aload_n (q := 525) dL_law_524 rfl rfl rfl ?_
  refine L_iload (q := 527) dL_law_525 rfl rfl ?_
  refine L_iconst (q := 528) dL_law_527 rfl rfl ?_
  refine L_iadd (q := 529) dL_law_528 rfl ?_
  rw [e_1]
  refine L_sld (q := 530) dL_law_529 (by omega) rfl ?_
  refine L_aload_n (q := 531) dL_law_530 rfl rfl rfl ?_
  refine L_iload (q := 533) dL_law_531 rfl rfl ?_
  refine L_iconst (q := 534) dL_law_533 rfl rfl ?_
  refine L_iadd (q := 535) dL_law_534 rfl ?_
  rw [e_2]
  refine L_sld (q := 536) dL_law_535 (by omega) rfl ?_
  refine L_call (q := 539) (vI r) (kX10_set 3 (by decide) hf) (by decide) mvL_61 (rfl : kD 0 = (10 + 10, 18)) rfl rfl rfl rfl rfl (by omega) dL_law_536 rfl ?_
  refine L_pop (q := 540) dL_law_539 trivial rfl ?_
  refine L_aload_n (q := 541) dL_law_540 rfl rfl rfl ?_
  refine L_aload_n (q := 542) dL_law_541 rfl rfl rfl ?_
  refine L_iload (q := 544) dL_law_542 rfl rfl ?_
  refine L_iconst (q := 545) dL_law_544 rfl rfl ?_
  refine L_iadd (q := 546) dL_law_545 rfl ?_
  rw [e_1]
  refine L_sld (q := 547) dL_law_546 (by omega) rfl ?_
  refine L_aload_n (q := 548) dL_law_547 rfl rfl rfl ?_
  refine L_iload (q := 550) dL_law_548 rfl rfl ?_
  refine L_iconst (q := 551) dL_law_550 rfl rfl ?_
  refine L_iadd (q := 552) dL_law_551 rfl ?_
  rw [e_2]
  refine L_sld (q := 553) dL_law_552 (by omega) rfl ?_
  refine L_call (q := 556) (vI r2) (kX11_set 2 (by decide) hg) (by decide) mvL_65 (rfl : kD 70 = (11 + 10, 54)) rfl rfl rfl rfl rfl (by omega) dL_law_553 rfl ?_
  refine L_pop (q := 557) dL_law_556 trivial rfl ?_
  refine L_goto (q := 1609) dL_law_557 (by decide) ?_
  exact hgo _ hI

set_option maxHeartbeats 4000000 in
set_option maxRecDepth 100000 in
theorem law_case_wind {Inv Inv' : Mm → Prop} (hst : s_wind Inv Inv') {L i : Nat} {sc : Nat → Int} {μ : Mm} {v : Int64} {k n : Nat} (hL : L ≤ 3072) (hi : i + 6 ≤ L) (hsc : ∀ j, rI (sc j)) (hI : Inv μ) (hk : k ≤ 500000 ∧ n ≤ 5000000) (hgo : ∀ μ2, Inv' μ2 → LL L sc 1609 [some (vR 99), some (vR 0), some (vR 70), some (vR 98), some (vI (i : Int)), none, none] [] μ2 v k n) : LL L sc 560 [some (vR 99), some (vR 0), some (vR 70), some (vR 98), some (vI (i : Int)), none, none] [] μ v k n := by
  have e_1 : iA (i : Int) 1 = ((i + 1 : Nat) : Int) := by rw [iA, wI_id (by omega) (by omega)]; omega
  have e_2 : iA (i : Int) 2 = ((i + 2 : Nat) : Int) := by rw [iA, wI_id (by omega) (by omega)]; omega
  obtain ⟨r, μ1, r2, μ2, hf, hg, hI⟩ := hst (sc (((i + 1 : Nat) : Int).toNat)) (hsc _) (sc (((i + 2 : Nat) : Int).toNat)) (hsc _) μ hI
  refine L_aload_n (q := 561) dL_law_560 rfl rfl rfl ?_
  refine L_aload_n (q := 562) dL_law_561 rfl rfl rfl ?_
  refine L_iload (q := 564) dL_law_562 rfl rfl ?_
  refine L_iconst (q := 565) dL_law_564 rfl rfl ?_
  refine L_iadd (q := 566) dL_law_565 rfl ?_
  rw [e_1]
  refine L_sld (q := 567) dL_law_566 (by omega) rfl ?_
  refine L_aload_n (q := 568) dL_law_567 rfl rfl rfl ?_
  refine L_iload (q := 570) dL_law_568 rfl rfl ?_
  refine L_iconst (q := 571) dL_law_570 rfl rfl ?_
  refine L_iadd (q := 572) dL_law_571 rfl ?_
  rw [e_2]
  refine L_sld (q := 573) dL_law_572 (by omega) rfl ?_
  refine L_call (q := 576) (vI r) (kX10_wind 3 (by decide) hf) (by decide) mvL_66 (rfl : kD 0 = (10 + 10, 18)) rfl rfl rfl rfl rfl (by omega) dL_law_573 rfl ?_
  refine L_pop (q := 577) dL_law_576 trivial rfl ?_
  refine L_aload_n (q := 578) dL_law_577 rfl rfl rfl ?_
  refine L_aload_n (q := 579) dL_law_578 rfl rfl rfl ?_
  refine L_iload (q := 581) dL_law_579 rfl rfl ?_
  refine L_iconst (q := 582) dL_law_581 rfl rfl ?_
  refine L_iadd (q := 583) dL_law_582 rfl ?_
  rw [e_1]
  refine L_sld (q := 584) dL_law_583 (by omega) rfl ?_
  refine L_aload_n (q := 585) dL_law_584 rfl rfl rfl ?_
  refine L_iload (q := 587) dL_law_585 rfl rfl ?_
  refine L_iconst (q := 588) dL_law_587 rfl rfl ?_
  refine L_iadd (q := 589) dL_law_588 rfl ?_
  rw [e_2]
  refine L_sld (q := 590) dL_law_589 (by omega) rfl ?_
  refine L_call (q := 593) (vI r2) (kX11_wind 4 (by decide) hg) (by decide) mvL_69 (rfl : kD 70 = (11 + 10, 54)) rfl rfl rfl rfl rfl (by omega) dL_law_590 rfl ?_
  refine L_pop (q := 594) dL_law_593 trivial rfl ?_
  refine L_goto (q := 1609) dL_law_594 (by decide) ?_
  exact hgo _ hI

set_option maxHeartbeats 4000000 in
set_option maxRecDepth 100000 in
theorem law_case_swap {Inv Inv' : Mm → Prop} (hst : s_swap Inv Inv') {L i : Nat} {sc : Nat → Int} {μ : Mm} {v : Int64} {k n : Nat} (hL : L ≤ 3072) (hi : i + 6 ≤ L) (hsc : ∀ j, rI (sc j)) (hI : Inv μ) (hk : k ≤ 500000 ∧ n ≤ 5000000) (hgo : ∀ μ2, Inv' μ2 → LL L sc 1609 [some (vR 99), some (vR 0), some (vR 70), some (vR 98), some (vI (i : Int)), none, none] [] μ2 v k n) : LL L sc 597 [some (vR 99), some (vR 0), some (vR 70), some (vR 98), some (vI (i : Int)), none, none] [] μ v k n := by
  have e_1 : iA (i : Int) 1 = ((i + 1 : Nat) : Int) := by rw [iA, wI_id (by omega) (by omega)]; omega
  have e_2 : iA (i : Int) 2 = ((i + 2 : Nat) : Int) := by rw [iA, wI_id (by omega) (by omega)]; omega
  obtain ⟨r, μ1, r2, μ2, hf, hg, hI⟩ := hst (sc (((i + 1 : Nat) : Int).toNat)) (hsc _) (sc (((i + 2 : Nat) : Int).toNat)) (hsc _) μ hI
  refine L_aload_n (q := 598) dL_law_597 rfl rfl rfl ?_
  refine L_aload_n (q := 599) dL_law_598 rfl rfl rfl ?_
  refine L_iload (q := 601) dL_law_599 rfl rfl ?_
  refine L_iconst (q := 602) dL_law_601 rfl rfl ?_
  refine L_iadd (q := 603) dL_law_602 rfl ?_
  rw [e_1]
  refine L_sld (q := 604) dL_law_603 (by omega) rfl ?_
  refine L_aload_n (q := 605) dL_law_604 rfl rfl rfl ?_
  refine L_iload (q := 607) dL_law_605 rfl rfl ?_
  refine L_iconst (q := 608) dL_law_607 rfl rfl ?_
  refine L_iadd (q := 609) dL_law_608 rfl ?_
  rw [e_2]
  refine L_sld (q := 610) dL_law_609 (by omega) rfl ?_
  refine L_call (q := 613) (vI r) (kX10_swap 3 (by decide) hf) (by decide) mvL_70 (rfl : kD 0 = (10 + 10, 18)) rfl rfl rfl rfl rfl (by omega) dL_law_610 rfl ?_
  refine L_pop (q := 614) dL_law_613 trivial rfl ?_
  refine L_aload_n (q := 615) dL_law_614 rfl rfl rfl ?_
  refine L_aload_n (q := 616) dL_law_615 rfl rfl rfl ?_
  refine L_iload (q := 618) dL_law_616 rfl rfl ?_
  refine L_iconst (q := 619) dL_law_618 rfl rfl ?_
  refine L_iadd (q := 620) dL_law_619 rfl ?_
  rw [e_1]
  refine L_sld (q := 621) dL_law_620 (by omega) rfl ?_
  refine L_aload_n (q := 622) dL_law_621 rfl rfl rfl ?_
  refine L_iload (q := 624) dL_law_622 rfl rfl ?_
  refine L_iconst (q := 625) dL_law_624 rfl rfl ?_
  refine L_iadd (q := 626) dL_law_625 rfl ?_
  rw [e_2]
  refine L_sld (q := 627) dL_law_626 (by omega) rfl ?_
  refine L_call (q := 630) (vI r2) (kX11_swap 4 (by decide) hg) (by decide) mvL_73 (rfl : kD 70 = (11 + 10, 54)) rfl rfl rfl rfl rfl (by omega) dL_law_627 rfl ?_
  refine L_pop (q := 631) dL_law_630 trivial rfl ?_
  refine L_goto (q := 1609) dL_law_631 (by decide) ?_
  exact hgo _ hI

set_option maxHeartbeats 4000000 in
set_option maxRecDepth 100000 in
theorem law_case_knock {Inv Inv' : Mm → Prop} (hst : s_knock Inv Inv') {L i : Nat} {sc : Nat → Int} {μ : Mm} {v : Int64} {k n : Nat} (hL : L ≤ 3072) (hi : i + 6 ≤ L) (hsc : ∀ j, rI (sc j)) (hI : Inv μ) (hk : k ≤ 500000 ∧ n ≤ 5000000) (hgo : ∀ μ2, Inv' μ2 → LL L sc 1609 [some (vR 99), some (vR 0), some (vR 70), some (vR 98), some (vI (i : Int)), none, none] [] μ2 v k n) : LL L sc 634 [some (vR 99), some (vR 0), some (vR 70), some (vR 98), some (vI (i : Int)), none, none] [] μ v k n := by
  have e_1 : iA (i : Int) 1 = ((i + 1 : Nat) : Int) := by rw [iA, wI_id (by omega) (by omega)]; omega
  obtain ⟨r, μ1, r2, μ2, hf, hg, hI⟩ := hst (sc (((i + 1 : Nat) : Int).toNat)) (hsc _) μ hI
  refine L_aload_n (q := 635) dL_law_634 rfl rfl rfl ?_
  refine L_aload_n (q := 636) dL_law_635 rfl rfl rfl ?_
  refine L_iload (q := 638) dL_law_636 rfl rfl ?_
  refine L_iconst (q := 639) dL_law_638 rfl rfl ?_
  refine L_iadd (q := 640) dL_law_639 rfl ?_
  rw [e_1]
  refine L_sld (q := 641) dL_law_640 (by omega) rfl ?_
  refine L_call (q := 644) (vI r) (kX10_knock 3 (by decide) hf) (by decide) mvL_74 (rfl : kD 0 = (10 + 10, 18)) rfl rfl rfl rfl rfl (by omega) dL_law_641 rfl ?_
  refine L_pop (q := 645) dL_law_644 trivial rfl ?_
  refine L_aload_n (q := 646) dL_law_645 rfl rfl rfl ?_
  refine L_aload_n (q := 647) dL_law_646 rfl rfl rfl ?_
  refine L_iload (q := 649) dL_law_647 rfl rfl ?_
  refine L_iconst (q := 650) dL_law_649 rfl rfl ?_
  refine L_iadd (q := 651) dL_law_650 rfl ?_
  rw [e_1]
  refine L_sld (q := 652) dL_law_651 (by omega) rfl ?_
  refine L_call (q := 655) (vI r2) (kX11_knock 2 (by decide) hg) (by decide) mvL_77 (rfl : kD 70 = (11 + 10, 54)) rfl rfl rfl rfl rfl (by omega) dL_law_652 rfl ?_
  refine L_pop (q := 656) dL_law_655 trivial rfl ?_
  refine L_goto (q := 1609) dL_law_656 (by decide) ?_
  exact hgo _ hI

set_option maxHeartbeats 4000000 in
set_option maxRecDepth 100000 in
theorem law_case_order {Inv Inv' : Mm → Prop} (hst : s_order Inv Inv') {L i : Nat} {sc : Nat → Int} {μ : Mm} {v : Int64} {k n : Nat} (hL : L ≤ 3072) (hi : i + 6 ≤ L) (hsc : ∀ j, rI (sc j)) (hI : Inv μ) (hk : k ≤ 500000 ∧ n ≤ 5000000) (hgo : ∀ μ2, Inv' μ2 → LL L sc 1609 [some (vR 99), some (vR 0), some (vR 70), some (vR 98), some (vI (i : Int)), none, none] [] μ2 v k n) : LL L sc 659 [some (vR 99), some (vR 0), some (vR 70), some (vR 98), some (vI (i : Int)), none, none] [] μ v k n := by
  have e_1 : iA (i : Int) 1 = ((i + 1 : Nat) : Int) := by rw [iA, wI_id (by omega) (by omega)]; omega
  have e_2 : iA (i : Int) 2 = ((i + 2 : Nat) : Int) := by rw [iA, wI_id (by omega) (by omega)]; omega
  have e_3 : iA (i : Int) 3 = ((i + 3 : Nat) : Int) := by rw [iA, wI_id (by omega) (by omega)]; omega
  obtain ⟨r, μ1, r2, μ2, hf, hg, hI⟩ := hst (sc (((i + 1 : Nat) : Int).toNat)) (hsc _) (sc (((i + 2 : Nat) : Int).toNat)) (hsc _) (sc (((i + 3 : Nat) : Int).toNat)) (hsc _) μ hI
  refine L_aload_n (q := 660) dL_law_659 rfl rfl rfl ?_
  refine L_aload_n (q := 661) dL_law_660 rfl rfl rfl ?_
  refine L_iload (q := 663) dL_law_661 rfl rfl ?_
  refine L_iconst (q := 664) dL_law_663 rfl rfl ?_
  refine L_iadd (q := 665) dL_law_664 rfl ?_
  rw [e_1]
  refine L_sld (q := 666) dL_law_665 (by omega) rfl ?_
  refine L_aload_n (q := 667) dL_law_666 rfl rfl rfl ?_
  refine L_iload (q := 669) dL_law_667 rfl rfl ?_
  refine L_iconst (q := 670) dL_law_669 rfl rfl ?_
  refine L_iadd (q := 671) dL_law_670 rfl ?_
  rw [e_2]
  refine L_sld (q := 672) dL_law_671 (by omega) rfl ?_
  refine L_aload_n (q := 673) dL_law_672 rfl rfl rfl ?_
  refine L_iload (q := 675) dL_law_673 rfl rfl ?_
  refine L_iconst (q := 676) dL_law_675 rfl rfl ?_
  refine L_iadd (q := 677) dL_law_676 rfl ?_
  rw [e_3]
  refine L_sld (q := 678) dL_law_677 (by omega) rfl ?_
  refine L_call (q := 681) (vI r) (kX10_order 273 (by decide) hf) (by decide) mvL_78 (rfl : kD 0 = (10 + 10, 18)) rfl rfl rfl rfl rfl (by omega) dL_law_678 rfl ?_
  refine L_pop (q := 682) dL_law_681 trivial rfl ?_
  refine L_aload_n (q := 683) dL_law_682 rfl rfl rfl ?_
  refine L_aload_n (q := 684) dL_law_683 rfl rfl rfl ?_
  refine L_iload (q := 686) dL_law_684 rfl rfl ?_
  refine L_iconst (q := 687) dL_law_686 rfl rfl ?_
  refine L_iadd (q := 688) dL_law_687 rfl ?_
  rw [e_1]
  refine L_sld (q := 689) dL_law_688 (by omega) rfl ?_
  refine L_aload_n (q := 690) dL_law_689 rfl rfl rfl ?_
  refine L_iload (q := 692) dL_law_690 rfl rfl ?_
  refine L_iconst (q := 693) dL_law_692 rfl rfl ?_
  refine L_iadd (q := 694) dL_law_693 rfl ?_
  rw [e_2]
  refine L_sld (q := 695) dL_law_694 (by omega) rfl ?_
  refine L_aload_n (q := 696) dL_law_695 rfl rfl rfl ?_
  refine L_iload (q := 698) dL_law_696 rfl rfl ?_
  refine L_iconst (q := 699) dL_law_698 rfl rfl ?_
  refine L_iadd (q := 700) dL_law_699 rfl ?_
  rw [e_3]
  refine L_sld (q := 701) dL_law_700 (by omega) rfl ?_
  refine L_call (q := 704) (vI r2) (kX11_order 7 (by decide) hg) (by decide) mvL_81 (rfl : kD 70 = (11 + 10, 54)) rfl rfl rfl rfl rfl (by omega) dL_law_701 rfl ?_
  refine L_pop (q := 705) dL_law_704 trivial rfl ?_
  refine L_goto (q := 1609) dL_law_705 (by decide) ?_
  exact hgo _ hI

set_option maxHeartbeats 4000000 in
set_option maxRecDepth 100000 in
theorem law_case_done {Inv Inv' : Mm → Prop} (hst : s_done Inv Inv') {L i : Nat} {sc : Nat → Int} {μ : Mm} {v : Int64} {k n : Nat} (hL : L ≤ 3072) (hi : i + 6 ≤ L) (hsc : ∀ j, rI (sc j)) (hI : Inv μ) (hk : k ≤ 500000 ∧ n ≤ 5000000) (hgo : ∀ μ2, Inv' μ2 → LL L sc 1609 [some (vR 99), some (vR 0), some (vR 70), some (vR 98), some (vI (i : Int)), none, none] [] μ2 v k n) : LL L sc 708 [some (vR 99), some (vR 0), some (vR 70), some (vR 98), some (vI (i : Int)), none, none] [] μ v k n := by
  have e_1 : iA (i : Int) 1 = ((i + 1 : Nat) : Int) := by rw [iA, wI_id (by omega) (by omega)]; omega
  have e_2 : iA (i : Int) 2 = ((i + 2 : Nat) : Int) := by rw [iA, wI_id (by omega) (by omega)]; omega
  have e_3 : iA (i : Int) 3 = ((i + 3 : Nat) : Int) := by rw [iA, wI_id (by omega) (by omega)]; omega
  have e_4 : iA (i : Int) 4 = ((i + 4 : Nat) : Int) := by rw [iA, wI_id (by omega) (by omega)]; omega
  obtain ⟨r, μ1, r2, μ2, hf, hg, hI⟩ := hst (sc (((i + 1 : Nat) : Int).toNat)) (hsc _) (sc (((i + 2 : Nat) : Int).toNat)) (hsc _) (sc (((i + 3 : Nat) : Int).toNat)) (hsc _) (sc (((i + 4 : Nat) : Int).toNat)) (hsc _) μ hI
  refine L_aload_n (q := 709) dL_law_708 rfl rfl rfl ?_
  refine L_aload_n (q := 710) dL_law_709 rfl rfl rfl ?_
  refine L_iload (q := 712) dL_law_710 rfl rfl ?_
  refine L_iconst (q := 713) dL_law_712 rfl rfl ?_
  refine L_iadd (q := 714) dL_law_713 rfl ?_
  rw [e_1]
  refine L_sld (q := 715) dL_law_714 (by omega) rfl ?_
  refine L_aload_n (q := 716) dL_law_715 rfl rfl rfl ?_
  refine L_iload (q := 718) dL_law_716 rfl rfl ?_
  refine L_iconst (q := 719) dL_law_718 rfl rfl ?_
  refine L_iadd (q := 720) dL_law_719 rfl ?_
  rw [e_2]
  refine L_sld (q := 721) dL_law_720 (by omega) rfl ?_
  refine L_aload_n (q := 722) dL_law_721 rfl rfl rfl ?_
  refine L_iload (q := 724) dL_law_722 rfl rfl ?_
  refine L_iconst (q := 725) dL_law_724 rfl rfl ?_
  refine L_iadd (q := 726) dL_law_725 rfl ?_
  rw [e_3]
  refine L_sld (q := 727) dL_law_726 (by omega) rfl ?_
  refine L_aload_n (q := 728) dL_law_727 rfl rfl rfl ?_
  refine L_iload (q := 730) dL_law_728 rfl rfl ?_
  refine L_iconst (q := 731) dL_law_730 rfl rfl ?_
  refine L_iadd (q := 732) dL_law_731 rfl ?_
  rw [e_4]
  refine L_sld (q := 733) dL_law_732 (by omega) rfl ?_
  refine L_call (q := 736) (vI r) (kX10_done 273 (by decide) hf) (by decide) mvL_82 (rfl : kD 0 = (10 + 10, 18)) rfl rfl rfl rfl rfl (by omega) dL_law_733 rfl ?_
  refine L_pop (q := 737) dL_law_736 trivial rfl ?_
  refine L_aload_n (q := 738) dL_law_737 rfl rfl rfl ?_
  refine L_aload_n (q := 739) dL_law_738 rfl rfl rfl ?_
  refine L_iload (q := 741) dL_law_739 rfl rfl ?_
  refine L_iconst (q := 742) dL_law_741 rfl rfl ?_
  refine L_iadd (q := 743) dL_law_742 rfl ?_
  rw [e_1]
  refine L_sld (q := 744) dL_law_743 (by omega) rfl ?_
  refine L_aload_n (q := 745) dL_law_744 rfl rfl rfl ?_
  refine L_iload (q := 747) dL_law_745 rfl rfl ?_
  refine L_iconst (q := 748) dL_law_747 rfl rfl ?_
  refine L_iadd (q := 749) dL_law_748 rfl ?_
  rw [e_2]
  refine L_sld (q := 750) dL_law_749 (by omega) rfl ?_
  refine L_aload_n (q := 751) dL_law_750 rfl rfl rfl ?_
  refine L_iload (q := 753) dL_law_751 rfl rfl ?_
  refine L_iconst (q := 754) dL_law_753 rfl rfl ?_
  refine L_iadd (q := 755) dL_law_754 rfl ?_
  rw [e_3]
  refine L_sld (q := 756) dL_law_755 (by omega) rfl ?_
  refine L_aload_n (q := 757) dL_law_756 rfl rfl rfl ?_
  refine L_iload (q := 759) dL_law_757 rfl rfl ?_
  refine L_iconst (q := 760) dL_law_759 rfl rfl ?_
  refine L_iadd (q := 761) dL_law_760 rfl ?_
  rw [e_4]
  refine L_sld (q := 762) dL_law_761 (by omega) rfl ?_
  refine L_call (q := 765) (vI r2) (kX11_done 7 (by decide) hg) (by decide) mvL_86 (rfl : kD 70 = (11 + 10, 54)) rfl rfl rfl rfl rfl (by omega) dL_law_762 rfl ?_
  refine L_pop (q := 766) dL_law_765 trivial rfl ?_
  refine L_goto (q := 1609) dL_law_766 (by decide) ?_
  exact hgo _ hI

set_option maxHeartbeats 4000000 in
set_option maxRecDepth 100000 in
theorem law_case_where {Inv Inv' : Mm → Prop} (hst : s_where Inv Inv') {L i : Nat} {sc : Nat → Int} {μ : Mm} {v : Int64} {k n : Nat} (hL : L ≤ 3072) (hi : i + 6 ≤ L) (hsc : ∀ j, rI (sc j)) (hI : Inv μ) (hk : k ≤ 500000 ∧ n ≤ 5000000) (hgo : ∀ μ2, Inv' μ2 → LL L sc 1609 [some (vR 99), some (vR 0), some (vR 70), some (vR 98), some (vI (i : Int)), none, none] [] μ2 v k n) : LL L sc 769 [some (vR 99), some (vR 0), some (vR 70), some (vR 98), some (vI (i : Int)), none, none] [] μ v k n := by
  have e_1 : iA (i : Int) 1 = ((i + 1 : Nat) : Int) := by rw [iA, wI_id (by omega) (by omega)]; omega
  have e_2 : iA (i : Int) 2 = ((i + 2 : Nat) : Int) := by rw [iA, wI_id (by omega) (by omega)]; omega
  have e_3 : iA (i : Int) 3 = ((i + 3 : Nat) : Int) := by rw [iA, wI_id (by omega) (by omega)]; omega
  obtain ⟨r, μ1, r2, μ2, hf, hg, hI⟩ := hst (sc (((i + 1 : Nat) : Int).toNat)) (hsc _) (sc (((i + 2 : Nat) : Int).toNat)) (hsc _) (sc (((i + 3 : Nat) : Int).toNat)) (hsc _) μ hI
  refine L_aload_n (q := 770) dL_law_769 rfl rfl rfl ?_
  refine L_aload_n (q := 771) dL_law_770 rfl rfl rfl ?_
  refine L_iload (q := 773) dL_law_771 rfl rfl ?_
  refine L_iconst (q := 774) dL_law_773 rfl rfl ?_
  refine L_iadd (q := 775) dL_law_774 rfl ?_
  rw [e_1]
  refine L_sld (q := 776) dL_law_775 (by omega) rfl ?_
  refine L_aload_n (q := 777) dL_law_776 rfl rfl rfl ?_
  refine L_iload (q := 779) dL_law_777 rfl rfl ?_
  refine L_iconst (q := 780) dL_law_779 rfl rfl ?_
  refine L_iadd (q := 781) dL_law_780 rfl ?_
  rw [e_2]
  refine L_sld (q := 782) dL_law_781 (by omega) rfl ?_
  refine L_aload_n (q := 783) dL_law_782 rfl rfl rfl ?_
  refine L_iload (q := 785) dL_law_783 rfl rfl ?_
  refine L_iconst (q := 786) dL_law_785 rfl rfl ?_
  refine L_iadd (q := 787) dL_law_786 rfl ?_
  rw [e_3]
  refine L_sld (q := 788) dL_law_787 (by omega) rfl ?_
  refine L_call (q := 791) (vI r) (kX10_where 273 (by decide) hf) (by decide) mvL_87 (rfl : kD 0 = (10 + 10, 18)) rfl rfl rfl rfl rfl (by omega) dL_law_788 rfl ?_
  refine L_pop (q := 792) dL_law_791 trivial rfl ?_
  refine L_aload_n (q := 793) dL_law_792 rfl rfl rfl ?_
  refine L_aload_n (q := 794) dL_law_793 rfl rfl rfl ?_
  refine L_iload (q := 796) dL_law_794 rfl rfl ?_
  refine L_iconst (q := 797) dL_law_796 rfl rfl ?_
  refine L_iadd (q := 798) dL_law_797 rfl ?_
  rw [e_1]
  refine L_sld (q := 799) dL_law_798 (by omega) rfl ?_
  refine L_aload_n (q := 800) dL_law_799 rfl rfl rfl ?_
  refine L_iload (q := 802) dL_law_800 rfl rfl ?_
  refine L_iconst (q := 803) dL_law_802 rfl rfl ?_
  refine L_iadd (q := 804) dL_law_803 rfl ?_
  rw [e_2]
  refine L_sld (q := 805) dL_law_804 (by omega) rfl ?_
  refine L_aload_n (q := 806) dL_law_805 rfl rfl rfl ?_
  refine L_iload (q := 808) dL_law_806 rfl rfl ?_
  refine L_iconst (q := 809) dL_law_808 rfl rfl ?_
  refine L_iadd (q := 810) dL_law_809 rfl ?_
  rw [e_3]
  refine L_sld (q := 811) dL_law_810 (by omega) rfl ?_
  refine L_call (q := 814) (vI r2) (kX11_where 7 (by decide) hg) (by decide) mvL_90 (rfl : kD 70 = (11 + 10, 54)) rfl rfl rfl rfl rfl (by omega) dL_law_811 rfl ?_
  refine L_pop (q := 815) dL_law_814 trivial rfl ?_
  refine L_goto (q := 1609) dL_law_815 (by decide) ?_
  exact hgo _ hI

set_option maxHeartbeats 4000000 in
set_option maxRecDepth 100000 in
theorem law_case_best {Inv Inv' : Mm → Prop} (hst : s_best Inv Inv') {L i : Nat} {sc : Nat → Int} {μ : Mm} {v : Int64} {k n : Nat} (hL : L ≤ 3072) (hi : i + 6 ≤ L) (hsc : ∀ j, rI (sc j)) (hI : Inv μ) (hk : k ≤ 500000 ∧ n ≤ 5000000) (hgo : ∀ μ2, Inv' μ2 → LL L sc 1609 [some (vR 99), some (vR 0), some (vR 70), some (vR 98), some (vI (i : Int)), none, none] [] μ2 v k n) : LL L sc 818 [some (vR 99), some (vR 0), some (vR 70), some (vR 98), some (vI (i : Int)), none, none] [] μ v k n := by
  have e_1 : iA (i : Int) 1 = ((i + 1 : Nat) : Int) := by rw [iA, wI_id (by omega) (by omega)]; omega
  have e_2 : iA (i : Int) 2 = ((i + 2 : Nat) : Int) := by rw [iA, wI_id (by omega) (by omega)]; omega
  have e_3 : iA (i : Int) 3 = ((i + 3 : Nat) : Int) := by rw [iA, wI_id (by omega) (by omega)]; omega
  obtain ⟨r, μ1, r2, μ2, hf, hg, hI⟩ := hst (sc (((i + 1 : Nat) : Int).toNat)) (hsc _) (sc (((i + 2 : Nat) : Int).toNat)) (hsc _) (sc (((i + 3 : Nat) : Int).toNat)) (hsc _) μ hI
  refine L_aload_n (q := 819) dL_law_818 rfl rfl rfl ?_
  refine L_aload_n (q := 820) dL_law_819 rfl rfl rfl ?_
  refine L_iload (q := 822) dL_law_820 rfl rfl ?_
  refine L_iconst (q := 823) dL_law_822 rfl rfl ?_
  refine L_iadd (q := 824) dL_law_823 rfl ?_
  rw [e_1]
  refine L_sld (q := 825) dL_law_824 (by omega) rfl ?_
  refine L_aload_n (q := 826) dL_law_825 rfl rfl rfl ?_
  refine L_iload (q := 828) dL_law_826 rfl rfl ?_
  refine L_iconst (q := 829) dL_law_828 rfl rfl ?_
  refine L_iadd (q := 830) dL_law_829 rfl ?_
  rw [e_2]
  refine L_sld (q := 831) dL_law_830 (by omega) rfl ?_
  refine L_aload_n (q := 832) dL_law_831 rfl rfl rfl ?_
  refine L_iload (q := 834) dL_law_832 rfl rfl ?_
  refine L_iconst (q := 835) dL_law_834 rfl rfl ?_
  refine L_iadd (q := 836) dL_law_835 rfl ?_
  rw [e_3]
  refine L_sld (q := 837) dL_law_836 (by omega) rfl ?_
  refine L_call (q := 840) (vI r) (kX10_best 272 (by decide) hf) (by decide) mvL_91 (rfl : kD 0 = (10 + 10, 18)) rfl rfl rfl rfl rfl (by omega) dL_law_837 rfl ?_
  refine L_pop (q := 841) dL_law_840 trivial rfl ?_
  refine L_aload_n (q := 842) dL_law_841 rfl rfl rfl ?_
  refine L_aload_n (q := 843) dL_law_842 rfl rfl rfl ?_
  refine L_iload (q := 845) dL_law_843 rfl rfl ?_
  refine L_iconst (q := 846) dL_law_845 rfl rfl ?_
  refine L_iadd (q := 847) dL_law_846 rfl ?_
  rw [e_1]
  refine L_sld (q := 848) dL_law_847 (by omega) rfl ?_
  refine L_aload_n (q := 849) dL_law_848 rfl rfl rfl ?_
  refine L_iload (q := 851) dL_law_849 rfl rfl ?_
  refine L_iconst (q := 852) dL_law_851 rfl rfl ?_
  refine L_iadd (q := 853) dL_law_852 rfl ?_
  rw [e_2]
  refine L_sld (q := 854) dL_law_853 (by omega) rfl ?_
  refine L_aload_n (q := 855) dL_law_854 rfl rfl rfl ?_
  refine L_iload (q := 857) dL_law_855 rfl rfl ?_
  refine L_iconst (q := 858) dL_law_857 rfl rfl ?_
  refine L_iadd (q := 859) dL_law_858 rfl ?_
  rw [e_3]
  refine L_sld (q := 860) dL_law_859 (by omega) rfl ?_
  refine L_call (q := 863) (vI r2) (kX11_best 134 (by decide) hg) (by decide) mvL_94 (rfl : kD 70 = (11 + 10, 54)) rfl rfl rfl rfl rfl (by omega) dL_law_860 rfl ?_
  refine L_pop (q := 864) dL_law_863 trivial rfl ?_
  refine L_goto (q := 1609) dL_law_864 (by decide) ?_
  exact hgo _ hI

set_option maxHeartbeats 4000000 in
set_option maxRecDepth 100000 in
theorem law_case_met {Inv Inv' : Mm → Prop} (hst : s_met Inv Inv') {L i : Nat} {sc : Nat → Int} {μ : Mm} {v : Int64} {k n : Nat} (hL : L ≤ 3072) (hi : i + 6 ≤ L) (hsc : ∀ j, rI (sc j)) (hI : Inv μ) (hk : k ≤ 500000 ∧ n ≤ 5000000) (hgo : ∀ μ2, Inv' μ2 → LL L sc 1609 [some (vR 99), some (vR 0), some (vR 70), some (vR 98), some (vI (i : Int)), none, none] [] μ2 v k n) : LL L sc 867 [some (vR 99), some (vR 0), some (vR 70), some (vR 98), some (vI (i : Int)), none, none] [] μ v k n := by
  have e_1 : iA (i : Int) 1 = ((i + 1 : Nat) : Int) := by rw [iA, wI_id (by omega) (by omega)]; omega
  have e_2 : iA (i : Int) 2 = ((i + 2 : Nat) : Int) := by rw [iA, wI_id (by omega) (by omega)]; omega
  obtain ⟨r, μ1, r2, μ2, hf, hg, hI⟩ := hst (sc (((i + 1 : Nat) : Int).toNat)) (hsc _) (sc (((i + 2 : Nat) : Int).toNat)) (hsc _) μ hI
  refine L_aload_n (q := 868) dL_law_867 rfl rfl rfl ?_
  refine L_aload_n (q := 869) dL_law_868 rfl rfl rfl ?_
  refine L_iload (q := 871) dL_law_869 rfl rfl ?_
  refine L_iconst (q := 872) dL_law_871 rfl rfl ?_
  refine L_iadd (q := 873) dL_law_872 rfl ?_
  rw [e_1]
  refine L_sld (q := 874) dL_law_873 (by omega) rfl ?_
  refine L_aload_n (q := 875) dL_law_874 rfl rfl rfl ?_
  refine L_iload (q := 877) dL_law_875 rfl rfl ?_
  refine L_iconst (q := 878) dL_law_877 rfl rfl ?_
  refine L_iadd (q := 879) dL_law_878 rfl ?_
  rw [e_2]
  refine L_sld (q := 880) dL_law_879 (by omega) rfl ?_
  refine L_call (q := 883) (vI r) (kX10_met 272 (by decide) hf) (by decide) mvL_95 (rfl : kD 0 = (10 + 10, 18)) rfl rfl rfl rfl rfl (by omega) dL_law_880 rfl ?_
  refine L_pop (q := 884) dL_law_883 trivial rfl ?_
  refine L_aload_n (q := 885) dL_law_884 rfl rfl rfl ?_
  refine L_aload_n (q := 886) dL_law_885 rfl rfl rfl ?_
  refine L_iload (q := 888) dL_law_886 rfl rfl ?_
  refine L_iconst (q := 889) dL_law_888 rfl rfl ?_
  refine L_iadd (q := 890) dL_law_889 rfl ?_
  rw [e_1]
  refine L_sld (q := 891) dL_law_890 (by omega) rfl ?_
  refine L_aload_n (q := 892) dL_law_891 rfl rfl rfl ?_
  refine L_iload (q := 894) dL_law_892 rfl rfl ?_
  refine L_iconst (q := 895) dL_law_894 rfl rfl ?_
  refine L_iadd (q := 896) dL_law_895 rfl ?_
  rw [e_2]
  refine L_sld (q := 897) dL_law_896 (by omega) rfl ?_
  refine L_call (q := 900) (vI r2) (kX11_met 134 (by decide) hg) (by decide) mvL_98 (rfl : kD 70 = (11 + 10, 54)) rfl rfl rfl rfl rfl (by omega) dL_law_897 rfl ?_
  refine L_pop (q := 901) dL_law_900 trivial rfl ?_
  refine L_goto (q := 1609) dL_law_901 (by decide) ?_
  exact hgo _ hI

set_option maxHeartbeats 4000000 in
set_option maxRecDepth 100000 in
theorem law_case_knot {Inv Inv' : Mm → Prop} (hst : s_knot Inv Inv') {L i : Nat} {sc : Nat → Int} {μ : Mm} {v : Int64} {k n : Nat} (hL : L ≤ 3072) (hi : i + 6 ≤ L) (hsc : ∀ j, rI (sc j)) (hI : Inv μ) (hk : k ≤ 500000 ∧ n ≤ 5000000) (hgo : ∀ μ2, Inv' μ2 → LL L sc 1609 [some (vR 99), some (vR 0), some (vR 70), some (vR 98), some (vI (i : Int)), none, none] [] μ2 v k n) : LL L sc 904 [some (vR 99), some (vR 0), some (vR 70), some (vR 98), some (vI (i : Int)), none, none] [] μ v k n := by
  have e_1 : iA (i : Int) 1 = ((i + 1 : Nat) : Int) := by rw [iA, wI_id (by omega) (by omega)]; omega
  obtain ⟨r, μ1, r2, μ2, hf, hg, hI⟩ := hst (sc (((i + 1 : Nat) : Int).toNat)) (hsc _) μ hI
  refine L_aload_n (q := 905) dL_law_904 rfl rfl rfl ?_
  refine L_aload_n (q := 906) dL_law_905 rfl rfl rfl ?_
  refine L_iload (q := 908) dL_law_906 rfl rfl ?_
  refine L_iconst (q := 909) dL_law_908 rfl rfl ?_
  refine L_iadd (q := 910) dL_law_909 rfl ?_
  rw [e_1]
  refine L_sld (q := 911) dL_law_910 (by omega) rfl ?_
  refine L_call (q := 914) (vI r) (kX10_knot 272 (by decide) hf) (by decide) mvL_99 (rfl : kD 0 = (10 + 10, 18)) rfl rfl rfl rfl rfl (by omega) dL_law_911 rfl ?_
  refine L_pop (q := 915) dL_law_914 trivial rfl ?_
  refine L_aload_n (q := 916) dL_law_915 rfl rfl rfl ?_
  refine L_aload_n (q := 917) dL_law_916 rfl rfl rfl ?_
  refine L_iload (q := 919) dL_law_917 rfl rfl ?_
  refine L_iconst (q := 920) dL_law_919 rfl rfl ?_
  refine L_iadd (q := 921) dL_law_920 rfl ?_
  rw [e_1]
  refine L_sld (q := 922) dL_law_921 (by omega) rfl ?_
  refine L_call (q := 925) (vI r2) (kX11_knot 134 (by decide) hg) (by decide) mvL_102 (rfl : kD 70 = (11 + 10, 54)) rfl rfl rfl rfl rfl (by omega) dL_law_922 rfl ?_
  refine L_pop (q := 926) dL_law_925 trivial rfl ?_
  refine L_goto (q := 1609) dL_law_926 (by decide) ?_
  exact hgo _ hI

set_option maxHeartbeats 4000000 in
set_option maxRecDepth 100000 in
theorem law_case_age {Inv Inv' : Mm → Prop} (hst : s_age Inv Inv') {L i : Nat} {sc : Nat → Int} {μ : Mm} {v : Int64} {k n : Nat} (hL : L ≤ 3072) (hi : i + 6 ≤ L) (hsc : ∀ j, rI (sc j)) (hI : Inv μ) (hk : k ≤ 500000 ∧ n ≤ 5000000) (hgo : ∀ μ2, Inv' μ2 → LL L sc 1609 [some (vR 99), some (vR 0), some (vR 70), some (vR 98), some (vI (i : Int)), none, none] [] μ2 v k n) : LL L sc 929 [some (vR 99), some (vR 0), some (vR 70), some (vR 98), some (vI (i : Int)), none, none] [] μ v k n := by
  have e_1 : iA (i : Int) 1 = ((i + 1 : Nat) : Int) := by rw [iA, wI_id (by omega) (by omega)]; omega
  obtain ⟨r, μ1, r2, μ2, hf, hg, hI⟩ := hst (sc (((i + 1 : Nat) : Int).toNat)) (hsc _) μ hI
  refine L_aload_n (q := 930) dL_law_929 rfl rfl rfl ?_
  refine L_aload_n (q := 931) dL_law_930 rfl rfl rfl ?_
  refine L_iload (q := 933) dL_law_931 rfl rfl ?_
  refine L_iconst (q := 934) dL_law_933 rfl rfl ?_
  refine L_iadd (q := 935) dL_law_934 rfl ?_
  rw [e_1]
  refine L_sld (q := 936) dL_law_935 (by omega) rfl ?_
  refine L_call (q := 939) (vI r) (kX10_age 272 (by decide) hf) (by decide) mvL_103 (rfl : kD 0 = (10 + 10, 18)) rfl rfl rfl rfl rfl (by omega) dL_law_936 rfl ?_
  refine L_pop (q := 940) dL_law_939 trivial rfl ?_
  refine L_aload_n (q := 941) dL_law_940 rfl rfl rfl ?_
  refine L_aload_n (q := 942) dL_law_941 rfl rfl rfl ?_
  refine L_iload (q := 944) dL_law_942 rfl rfl ?_
  refine L_iconst (q := 945) dL_law_944 rfl rfl ?_
  refine L_iadd (q := 946) dL_law_945 rfl ?_
  rw [e_1]
  refine L_sld (q := 947) dL_law_946 (by omega) rfl ?_
  refine L_call (q := 950) (vI r2) (kX11_age 135 (by decide) hg) (by decide) mvL_106 (rfl : kD 70 = (11 + 10, 54)) rfl rfl rfl rfl rfl (by omega) dL_law_947 rfl ?_
  refine L_pop (q := 951) dL_law_950 trivial rfl ?_
  refine L_goto (q := 1609) dL_law_951 (by decide) ?_
  exact hgo _ hI

set_option maxHeartbeats 4000000 in
set_option maxRecDepth 100000 in
theorem law_case_first {Inv Inv' : Mm → Prop} (hst : s_first Inv Inv') {L i : Nat} {sc : Nat → Int} {μ : Mm} {v : Int64} {k n : Nat} (hL : L ≤ 3072) (hi : i + 6 ≤ L) (hsc : ∀ j, rI (sc j)) (hI : Inv μ) (hk : k ≤ 500000 ∧ n ≤ 5000000) (hgo : ∀ μ2, Inv' μ2 → LL L sc 1609 [some (vR 99), some (vR 0), some (vR 70), some (vR 98), some (vI (i : Int)), none, none] [] μ2 v k n) : LL L sc 954 [some (vR 99), some (vR 0), some (vR 70), some (vR 98), some (vI (i : Int)), none, none] [] μ v k n := by
  obtain ⟨r, μ1, r2, μ2, hf, hg, hI⟩ := hst μ hI
  refine L_aload_n (q := 955) dL_law_954 rfl rfl rfl ?_
  refine L_call (q := 958) (vI r) (kX10_first 272 (by decide) hf) (by decide) mvL_107 (rfl : kD 0 = (10 + 10, 18)) rfl rfl rfl rfl rfl (by omega) dL_law_955 rfl ?_
  refine L_pop (q := 959) dL_law_958 trivial rfl ?_
  refine L_aload_n (q := 960) dL_law_959 rfl rfl rfl ?_
  refine L_call (q := 963) (vI r2) (kX11_first 135 (by decide) hg) (by decide) mvL_110 (rfl : kD 70 = (11 + 10, 54)) rfl rfl rfl rfl rfl (by omega) dL_law_960 rfl ?_
  refine L_pop (q := 964) dL_law_963 trivial rfl ?_
  refine L_goto (q := 1609) dL_law_964 (by decide) ?_
  exact hgo _ hI

set_option maxHeartbeats 4000000 in
set_option maxRecDepth 100000 in
theorem law_case_post {Inv Inv' : Mm → Prop} (hst : s_post Inv Inv') {L i : Nat} {sc : Nat → Int} {μ : Mm} {v : Int64} {k n : Nat} (hL : L ≤ 3072) (hi : i + 6 ≤ L) (hsc : ∀ j, rI (sc j)) (hI : Inv μ) (hk : k ≤ 500000 ∧ n ≤ 5000000) (hgo : ∀ μ2, Inv' μ2 → LL L sc 1609 [some (vR 99), some (vR 0), some (vR 70), some (vR 98), some (vI (i : Int)), none, none] [] μ2 v k n) : LL L sc 967 [some (vR 99), some (vR 0), some (vR 70), some (vR 98), some (vI (i : Int)), none, none] [] μ v k n := by
  have e_1 : iA (i : Int) 1 = ((i + 1 : Nat) : Int) := by rw [iA, wI_id (by omega) (by omega)]; omega
  have e_2 : iA (i : Int) 2 = ((i + 2 : Nat) : Int) := by rw [iA, wI_id (by omega) (by omega)]; omega
  obtain ⟨r, μ1, r2, μ2, hf, hg, hI⟩ := hst (sc (((i + 1 : Nat) : Int).toNat)) (hsc _) (sc (((i + 2 : Nat) : Int).toNat)) (hsc _) μ hI
  refine L_aload_n (q := 968) dL_law_967 rfl rfl rfl ?_
  refine L_aload_n (q := 969) dL_law_968 rfl rfl rfl ?_
  refine L_iload (q := 971) dL_law_969 rfl rfl ?_
  refine L_iconst (q := 972) dL_law_971 rfl rfl ?_
  refine L_iadd (q := 973) dL_law_972 rfl ?_
  rw [e_1]
  refine L_sld (q := 974) dL_law_973 (by omega) rfl ?_
  refine L_aload_n (q := 975) dL_law_974 rfl rfl rfl ?_
  refine L_iload (q := 977) dL_law_975 rfl rfl ?_
  refine L_iconst (q := 978) dL_law_977 rfl rfl ?_
  refine L_iadd (q := 979) dL_law_978 rfl ?_
  rw [e_2]
  refine L_sld (q := 980) dL_law_979 (by omega) rfl ?_
  refine L_call (q := 983) (vI r) (kX10_post 272 (by decide) hf) (by decide) mvL_111 (rfl : kD 0 = (10 + 10, 18)) rfl rfl rfl rfl rfl (by omega) dL_law_980 rfl ?_
  refine L_pop (q := 984) dL_law_983 trivial rfl ?_
  refine L_aload_n (q := 985) dL_law_984 rfl rfl rfl ?_
  refine L_aload_n (q := 986) dL_law_985 rfl rfl rfl ?_
  refine L_iload (q := 988) dL_law_986 rfl rfl ?_
  refine L_iconst (q := 989) dL_law_988 rfl rfl ?_
  refine L_iadd (q := 990) dL_law_989 rfl ?_
  rw [e_1]
  refine L_sld (q := 991) dL_law_990 (by omega) rfl ?_
  refine L_aload_n (q := 992) dL_law_991 rfl rfl rfl ?_
  refine L_iload (q := 994) dL_law_992 rfl rfl ?_
  refine L_iconst (q := 995) dL_law_994 rfl rfl ?_
  refine L_iadd (q := 996) dL_law_995 rfl ?_
  rw [e_2]
  refine L_sld (q := 997) dL_law_996 (by omega) rfl ?_
  refine L_call (q := 1000) (vI r2) (kX11_post 135 (by decide) hg) (by decide) mvL_114 (rfl : kD 70 = (11 + 10, 54)) rfl rfl rfl rfl rfl (by omega) dL_law_997 rfl ?_
  refine L_pop (q := 1001) dL_law_1000 trivial rfl ?_
  refine L_goto (q := 1609) dL_law_1001 (by decide) ?_
  exact hgo _ hI

set_option maxHeartbeats 4000000 in
set_option maxRecDepth 100000 in
theorem law_case_rope {Inv Inv' : Mm → Prop} (hst : s_rope Inv Inv') {L i : Nat} {sc : Nat → Int} {μ : Mm} {v : Int64} {k n : Nat} (hL : L ≤ 3072) (hi : i + 6 ≤ L) (hsc : ∀ j, rI (sc j)) (hI : Inv μ) (hk : k ≤ 500000 ∧ n ≤ 5000000) (hgo : ∀ μ2, Inv' μ2 → LL L sc 1609 [some (vR 99), some (vR 0), some (vR 70), some (vR 98), some (vI (i : Int)), none, none] [] μ2 v k n) : LL L sc 1004 [some (vR 99), some (vR 0), some (vR 70), some (vR 98), some (vI (i : Int)), none, none] [] μ v k n := by
  have e_1 : iA (i : Int) 1 = ((i + 1 : Nat) : Int) := by rw [iA, wI_id (by omega) (by omega)]; omega
  have e_2 : iA (i : Int) 2 = ((i + 2 : Nat) : Int) := by rw [iA, wI_id (by omega) (by omega)]; omega
  obtain ⟨r, μ1, r2, μ2, hf, hg, hI⟩ := hst (sc (((i + 1 : Nat) : Int).toNat)) (hsc _) (sc (((i + 2 : Nat) : Int).toNat)) (hsc _) μ hI
  refine L_aload_n (q := 1005) dL_law_1004 rfl rfl rfl ?_
  refine L_aload_n (q := 1006) dL_law_1005 rfl rfl rfl ?_
  refine L_iload (q := 1008) dL_law_1006 rfl rfl ?_
  refine L_iconst (q := 1009) dL_law_1008 rfl rfl ?_
  refine L_iadd (q := 1010) dL_law_1009 rfl ?_
  rw [e_1]
  refine L_sld (q := 1011) dL_law_1010 (by omega) rfl ?_
  refine L_aload_n (q := 1012) dL_law_1011 rfl rfl rfl ?_
  refine L_iload (q := 1014) dL_law_1012 rfl rfl ?_
  refine L_iconst (q := 1015) dL_law_1014 rfl rfl ?_
  refine L_iadd (q := 1016) dL_law_1015 rfl ?_
  rw [e_2]
  refine L_sld (q := 1017) dL_law_1016 (by omega) rfl ?_
  refine L_call (q := 1020) (vI r) (kX10_rope 272 (by decide) hf) (by decide) mvL_115 (rfl : kD 0 = (10 + 10, 18)) rfl rfl rfl rfl rfl (by omega) dL_law_1017 rfl ?_
  refine L_pop (q := 1021) dL_law_1020 trivial rfl ?_
  refine L_aload_n (q := 1022) dL_law_1021 rfl rfl rfl ?_
  refine L_aload_n (q := 1023) dL_law_1022 rfl rfl rfl ?_
  refine L_iload (q := 1025) dL_law_1023 rfl rfl ?_
  refine L_iconst (q := 1026) dL_law_1025 rfl rfl ?_
  refine L_iadd (q := 1027) dL_law_1026 rfl ?_
  rw [e_1]
  refine L_sld (q := 1028) dL_law_1027 (by omega) rfl ?_
  refine L_aload_n (q := 1029) dL_law_1028 rfl rfl rfl ?_
  refine L_iload (q := 1031) dL_law_1029 rfl rfl ?_
  refine L_iconst (q := 1032) dL_law_1031 rfl rfl ?_
  refine L_iadd (q := 1033) dL_law_1032 rfl ?_
  rw [e_2]
  refine L_sld (q := 1034) dL_law_1033 (by omega) rfl ?_
  refine L_call (q := 1037) (vI r2) (kX11_rope 135 (by decide) hg) (by decide) mvL_118 (rfl : kD 70 = (11 + 10, 54)) rfl rfl rfl rfl rfl (by omega) dL_law_1034 rfl ?_
  refine L_pop (q := 1038) dL_law_1037 trivial rfl ?_
  refine L_goto (q := 1609) dL_law_1038 (by decide) ?_
  exact hgo _ hI

set_option maxHeartbeats 4000000 in
set_option maxRecDepth 100000 in
theorem law_case_exchange {Inv Inv' : Mm → Prop} (hst : s_exchange Inv Inv') {L i : Nat} {sc : Nat → Int} {μ : Mm} {v : Int64} {k n : Nat} (hL : L ≤ 3072) (hi : i + 6 ≤ L) (hsc : ∀ j, rI (sc j)) (hI : Inv μ) (hk : k ≤ 500000 ∧ n ≤ 5000000) (hgo : ∀ μ2, Inv' μ2 → LL L sc 1609 [some (vR 99), some (vR 0), some (vR 70), some (vR 98), some (vI (i : Int)), none, none] [] μ2 v k n) : LL L sc 1041 [some (vR 99), some (vR 0), some (vR 70), some (vR 98), some (vI (i : Int)), none, none] [] μ v k n := by
  have e_1 : iA (i : Int) 1 = ((i + 1 : Nat) : Int) := by rw [iA, wI_id (by omega) (by omega)]; omega
  have e_2 : iA (i : Int) 2 = ((i + 2 : Nat) : Int) := by rw [iA, wI_id (by omega) (by omega)]; omega
  have e_3 : iA (i : Int) 3 = ((i + 3 : Nat) : Int) := by rw [iA, wI_id (by omega) (by omega)]; omega
  obtain ⟨r, μ1, r2, μ2, hf, hg, hI⟩ := hst (sc (((i + 1 : Nat) : Int).toNat)) (hsc _) (sc (((i + 2 : Nat) : Int).toNat)) (hsc _) (sc (((i + 3 : Nat) : Int).toNat)) (hsc _) μ hI
  refine L_aload_n (q := 1042) dL_law_1041 rfl rfl rfl ?_
  refine L_aload_n (q := 1043) dL_law_1042 rfl rfl rfl ?_
  refine L_iload (q := 1045) dL_law_1043 rfl rfl ?_
  refine L_iconst (q := 1046) dL_law_1045 rfl rfl ?_
  refine L_iadd (q := 1047) dL_law_1046 rfl ?_
  rw [e_1]
  refine L_sld (q := 1048) dL_law_1047 (by omega) rfl ?_
  refine L_aload_n (q := 1049) dL_law_1048 rfl rfl rfl ?_
  refine L_iload (q := 1051) dL_law_1049 rfl rfl ?_
  refine L_iconst (q := 1052) dL_law_1051 rfl rfl ?_
  refine L_iadd (q := 1053) dL_law_1052 rfl ?_
  rw [e_2]
  refine L_sld (q := 1054) dL_law_1053 (by omega) rfl ?_
  refine L_aload_n (q := 1055) dL_law_1054 rfl rfl rfl ?_
  refine L_iload (q := 1057) dL_law_1055 rfl rfl ?_
  refine L_iconst (q := 1058) dL_law_1057 rfl rfl ?_
  refine L_iadd (q := 1059) dL_law_1058 rfl ?_
  rw [e_3]
  refine L_sld (q := 1060) dL_law_1059 (by omega) rfl ?_
  refine L_call (q := 1063) (vI r) (kX10_exchange 272 (by decide) hf) (by decide) mvL_119 (rfl : kD 0 = (10 + 10, 18)) rfl rfl rfl rfl rfl (by omega) dL_law_1060 rfl ?_
  refine L_pop (q := 1064) dL_law_1063 trivial rfl ?_
  refine L_aload_n (q := 1065) dL_law_1064 rfl rfl rfl ?_
  refine L_aload_n (q := 1066) dL_law_1065 rfl rfl rfl ?_
  refine L_iload (q := 1068) dL_law_1066 rfl rfl ?_
  refine L_iconst (q := 1069) dL_law_1068 rfl rfl ?_
  refine L_iadd (q := 1070) dL_law_1069 rfl ?_
  rw [e_1]
  refine L_sld (q := 1071) dL_law_1070 (by omega) rfl ?_
  refine L_aload_n (q := 1072) dL_law_1071 rfl rfl rfl ?_
  refine L_iload (q := 1074) dL_law_1072 rfl rfl ?_
  refine L_iconst (q := 1075) dL_law_1074 rfl rfl ?_
  refine L_iadd (q := 1076) dL_law_1075 rfl ?_
  rw [e_2]
  refine L_sld (q := 1077) dL_law_1076 (by omega) rfl ?_
  refine L_aload_n (q := 1078) dL_law_1077 rfl rfl rfl ?_
  refine L_iload (q := 1080) dL_law_1078 rfl rfl ?_
  refine L_iconst (q := 1081) dL_law_1080 rfl rfl ?_
  refine L_iadd (q := 1082) dL_law_1081 rfl ?_
  rw [e_3]
  refine L_sld (q := 1083) dL_law_1082 (by omega) rfl ?_
  refine L_call (q := 1086) (vI r2) (kX11_exchange 136 (by decide) hg) (by decide) mvL_122 (rfl : kD 70 = (11 + 10, 54)) rfl rfl rfl rfl rfl (by omega) dL_law_1083 rfl ?_
  refine L_pop (q := 1087) dL_law_1086 trivial rfl ?_
  refine L_goto (q := 1609) dL_law_1087 (by decide) ?_
  exact hgo _ hI

set_option maxHeartbeats 4000000 in
set_option maxRecDepth 100000 in
theorem law_case_skip {Inv Inv' : Mm → Prop} (hst : s_skip Inv Inv') {L i : Nat} {sc : Nat → Int} {μ : Mm} {v : Int64} {k n : Nat} (hL : L ≤ 3072) (hi : i + 6 ≤ L) (hsc : ∀ j, rI (sc j)) (hI : Inv μ) (hk : k ≤ 500000 ∧ n ≤ 5000000) (hgo : ∀ μ2, Inv' μ2 → LL L sc 1609 [some (vR 99), some (vR 0), some (vR 70), some (vR 98), some (vI (i : Int)), none, none] [] μ2 v k n) : LL L sc 1090 [some (vR 99), some (vR 0), some (vR 70), some (vR 98), some (vI (i : Int)), none, none] [] μ v k n := by
  have e_1 : iA (i : Int) 1 = ((i + 1 : Nat) : Int) := by rw [iA, wI_id (by omega) (by omega)]; omega
  have e_2 : iA (i : Int) 2 = ((i + 2 : Nat) : Int) := by rw [iA, wI_id (by omega) (by omega)]; omega
  have e_3 : iA (i : Int) 3 = ((i + 3 : Nat) : Int) := by rw [iA, wI_id (by omega) (by omega)]; omega
  obtain ⟨r, μ1, r2, μ2, hf, hg, hI⟩ := hst (sc (((i + 1 : Nat) : Int).toNat)) (hsc _) (sc (((i + 2 : Nat) : Int).toNat)) (hsc _) (sc (((i + 3 : Nat) : Int).toNat)) (hsc _) μ hI
  refine L_aload_n (q := 1091) dL_law_1090 rfl rfl rfl ?_
  refine L_aload_n (q := 1092) dL_law_1091 rfl rfl rfl ?_
  refine L_iload (q := 1094) dL_law_1092 rfl rfl ?_
  refine L_iconst (q := 1095) dL_law_1094 rfl rfl ?_
  refine L_iadd (q := 1096) dL_law_1095 rfl ?_
  rw [e_1]
  refine L_sld (q := 1097) dL_law_1096 (by omega) rfl ?_
  refine L_aload_n (q := 1098) dL_law_1097 rfl rfl rfl ?_
  refine L_iload (q := 1100) dL_law_1098 rfl rfl ?_
  refine L_iconst (q := 1101) dL_law_1100 rfl rfl ?_
  refine L_iadd (q := 1102) dL_law_1101 rfl ?_
  rw [e_2]
  refine L_sld (q := 1103) dL_law_1102 (by omega) rfl ?_
  refine L_aload_n (q := 1104) dL_law_1103 rfl rfl rfl ?_
  refine L_iload (q := 1106) dL_law_1104 rfl rfl ?_
  refine L_iconst (q := 1107) dL_law_1106 rfl rfl ?_
  refine L_iadd (q := 1108) dL_law_1107 rfl ?_
  rw [e_3]
  refine L_sld (q := 1109) dL_law_1108 (by omega) rfl ?_
  refine L_call (q := 1112) (vI r) (kX10_skip 272 (by decide) hf) (by decide) mvL_123 (rfl : kD 0 = (10 + 10, 18)) rfl rfl rfl rfl rfl (by omega) dL_law_1109 rfl ?_
  refine L_pop (q := 1113) dL_law_1112 trivial rfl ?_
  refine L_aload_n (q := 1114) dL_law_1113 rfl rfl rfl ?_
  refine L_aload_n (q := 1115) dL_law_1114 rfl rfl rfl ?_
  refine L_iload (q := 1117) dL_law_1115 rfl rfl ?_
  refine L_iconst (q := 1118) dL_law_1117 rfl rfl ?_
  refine L_iadd (q := 1119) dL_law_1118 rfl ?_
  rw [e_1]
  refine L_sld (q := 1120) dL_law_1119 (by omega) rfl ?_
  refine L_aload_n (q := 1121) dL_law_1120 rfl rfl rfl ?_
  refine L_iload (q := 1123) dL_law_1121 rfl rfl ?_
  refine L_iconst (q := 1124) dL_law_1123 rfl rfl ?_
  refine L_iadd (q := 1125) dL_law_1124 rfl ?_
  rw [e_2]
  refine L_sld (q := 1126) dL_law_1125 (by omega) rfl ?_
  refine L_aload_n (q := 1127) dL_law_1126 rfl rfl rfl ?_
  refine L_iload (q := 1129) dL_law_1127 rfl rfl ?_
  refine L_iconst (q := 1130) dL_law_1129 rfl rfl ?_
  refine L_iadd (q := 1131) dL_law_1130 rfl ?_
  rw [e_3]
  refine L_sld (q := 1132) dL_law_1131 (by omega) rfl ?_
  refine L_call (q := 1135) (vI r2) (kX11_skip 7 (by decide) hg) (by decide) mvL_126 (rfl : kD 70 = (11 + 10, 54)) rfl rfl rfl rfl rfl (by omega) dL_law_1132 rfl ?_
  refine L_pop (q := 1136) dL_law_1135 trivial rfl ?_
  refine L_goto (q := 1609) dL_law_1136 (by decide) ?_
  exact hgo _ hI

set_option maxHeartbeats 4000000 in
set_option maxRecDepth 100000 in
theorem law_case_nights {Inv Inv' : Mm → Prop} (hst : s_nights Inv Inv') {L i : Nat} {sc : Nat → Int} {μ : Mm} {v : Int64} {k n : Nat} (hL : L ≤ 3072) (hi : i + 6 ≤ L) (hsc : ∀ j, rI (sc j)) (hI : Inv μ) (hk : k ≤ 500000 ∧ n ≤ 5000000) (hgo : ∀ μ2, Inv' μ2 → LL L sc 1609 [some (vR 99), some (vR 0), some (vR 70), some (vR 98), some (vI (i : Int)), none, none] [] μ2 v k n) : LL L sc 1139 [some (vR 99), some (vR 0), some (vR 70), some (vR 98), some (vI (i : Int)), none, none] [] μ v k n := by
  have e_1 : iA (i : Int) 1 = ((i + 1 : Nat) : Int) := by rw [iA, wI_id (by omega) (by omega)]; omega
  have e_2 : iA (i : Int) 2 = ((i + 2 : Nat) : Int) := by rw [iA, wI_id (by omega) (by omega)]; omega
  have e_3 : iA (i : Int) 3 = ((i + 3 : Nat) : Int) := by rw [iA, wI_id (by omega) (by omega)]; omega
  obtain ⟨r, μ1, r2, μ2, hf, hg, hI⟩ := hst (sc (((i + 1 : Nat) : Int).toNat)) (hsc _) (sc (((i + 2 : Nat) : Int).toNat)) (hsc _) (sc (((i + 3 : Nat) : Int).toNat)) (hsc _) μ hI
  refine L_aload_n (q := 1140) dL_law_1139 rfl rfl rfl ?_
  refine L_aload_n (q := 1141) dL_law_1140 rfl rfl rfl ?_
  refine L_iload (q := 1143) dL_law_1141 rfl rfl ?_
  refine L_iconst (q := 1144) dL_law_1143 rfl rfl ?_
  refine L_iadd (q := 1145) dL_law_1144 rfl ?_
  rw [e_1]
  refine L_sld (q := 1146) dL_law_1145 (by omega) rfl ?_
  refine L_aload_n (q := 1147) dL_law_1146 rfl rfl rfl ?_
  refine L_iload (q := 1149) dL_law_1147 rfl rfl ?_
  refine L_iconst (q := 1150) dL_law_1149 rfl rfl ?_
  refine L_iadd (q := 1151) dL_law_1150 rfl ?_
  rw [e_2]
  refine L_sld (q := 1152) dL_law_1151 (by omega) rfl ?_
  refine L_aload_n (q := 1153) dL_law_1152 rfl rfl rfl ?_
  refine L_iload (q := 1155) dL_law_1153 rfl rfl ?_
  refine L_iconst (q := 1156) dL_law_1155 rfl rfl ?_
  refine L_iadd (q := 1157) dL_law_1156 rfl ?_
  rw [e_3]
  refine L_sld (q := 1158) dL_law_1157 (by omega) rfl ?_
  refine L_call (q := 1161) (vI r) (kX10_nights 272 (by decide) hf) (by decide) mvL_127 (rfl : kD 0 = (10 + 10, 18)) rfl rfl rfl rfl rfl (by omega) dL_law_1158 rfl ?_
  refine L_pop (q := 1162) dL_law_1161 trivial rfl ?_
  refine L_aload_n (q := 1163) dL_law_1162 rfl rfl rfl ?_
  refine L_aload_n (q := 1164) dL_law_1163 rfl rfl rfl ?_
  refine L_iload (q := 1166) dL_law_1164 rfl rfl ?_
  refine L_iconst (q := 1167) dL_law_1166 rfl rfl ?_
  refine L_iadd (q := 1168) dL_law_1167 rfl ?_
  rw [e_1]
  refine L_sld (q := 1169) dL_law_1168 (by omega) rfl ?_
  refine L_aload_n (q := 1170) dL_law_1169 rfl rfl rfl ?_
  refine L_iload (q := 1172) dL_law_1170 rfl rfl ?_
  refine L_iconst (q := 1173) dL_law_1172 rfl rfl ?_
  refine L_iadd (q := 1174) dL_law_1173 rfl ?_
  rw [e_2]
  refine L_sld (q := 1175) dL_law_1174 (by omega) rfl ?_
  refine L_aload_n (q := 1176) dL_law_1175 rfl rfl rfl ?_
  refine L_iload (q := 1178) dL_law_1176 rfl rfl ?_
  refine L_iconst (q := 1179) dL_law_1178 rfl rfl ?_
  refine L_iadd (q := 1180) dL_law_1179 rfl ?_
  rw [e_3]
  refine L_sld (q := 1181) dL_law_1180 (by omega) rfl ?_
  refine L_call (q := 1184) (vI r2) (kX11_nights 7 (by decide) hg) (by decide) mvL_130 (rfl : kD 70 = (11 + 10, 54)) rfl rfl rfl rfl rfl (by omega) dL_law_1181 rfl ?_
  refine L_pop (q := 1185) dL_law_1184 trivial rfl ?_
  refine L_goto (q := 1609) dL_law_1185 (by decide) ?_
  exact hgo _ hI

set_option maxHeartbeats 4000000 in
set_option maxRecDepth 100000 in
theorem law_case_thud {Inv Inv' : Mm → Prop} (hst : s_thud Inv Inv') {L i : Nat} {sc : Nat → Int} {μ : Mm} {v : Int64} {k n : Nat} (hL : L ≤ 3072) (hi : i + 6 ≤ L) (hsc : ∀ j, rI (sc j)) (hI : Inv μ) (hk : k ≤ 500000 ∧ n ≤ 5000000) (hgo : ∀ μ2, Inv' μ2 → LL L sc 1609 [some (vR 99), some (vR 0), some (vR 70), some (vR 98), some (vI (i : Int)), none, none] [] μ2 v k n) : LL L sc 1188 [some (vR 99), some (vR 0), some (vR 70), some (vR 98), some (vI (i : Int)), none, none] [] μ v k n := by
  have e_1 : iA (i : Int) 1 = ((i + 1 : Nat) : Int) := by rw [iA, wI_id (by omega) (by omega)]; omega
  have e_2 : iA (i : Int) 2 = ((i + 2 : Nat) : Int) := by rw [iA, wI_id (by omega) (by omega)]; omega
  obtain ⟨r, μ1, r2, μ2, hf, hg, hI⟩ := hst (sc (((i + 1 : Nat) : Int).toNat)) (hsc _) (sc (((i + 2 : Nat) : Int).toNat)) (hsc _) μ hI
  refine L_aload_n (q := 1189) dL_law_1188 rfl rfl rfl ?_
  refine L_aload_n (q := 1190) dL_law_1189 rfl rfl rfl ?_
  refine L_iload (q := 1192) dL_law_1190 rfl rfl ?_
  refine L_iconst (q := 1193) dL_law_1192 rfl rfl ?_
  refine L_iadd (q := 1194) dL_law_1193 rfl ?_
  rw [e_1]
  refine L_sld (q := 1195) dL_law_1194 (by omega) rfl ?_
  refine L_aload_n (q := 1196) dL_law_1195 rfl rfl rfl ?_
  refine L_iload (q := 1198) dL_law_1196 rfl rfl ?_
  refine L_iconst (q := 1199) dL_law_1198 rfl rfl ?_
  refine L_iadd (q := 1200) dL_law_1199 rfl ?_
  rw [e_2]
  refine L_sld (q := 1201) dL_law_1200 (by omega) rfl ?_
  refine L_call (q := 1204) (vI r) (kX10_thud 2 (by decide) hf) (by decide) mvL_131 (rfl : kD 0 = (10 + 10, 18)) rfl rfl rfl rfl rfl (by omega) dL_law_1201 rfl ?_
  refine L_pop (q := 1205) dL_law_1204 trivial rfl ?_
  refine L_aload_n (q := 1206) dL_law_1205 rfl rfl rfl ?_
  refine L_aload_n (q := 1207) dL_law_1206 rfl rfl rfl ?_
  refine L_iload (q := 1209) dL_law_1207 rfl rfl ?_
  refine L_iconst (q := 1210) dL_law_1209 rfl rfl ?_
  refine L_iadd (q := 1211) dL_law_1210 rfl ?_
  rw [e_1]
  refine L_sld (q := 1212) dL_law_1211 (by omega) rfl ?_
  refine L_aload_n (q := 1213) dL_law_1212 rfl rfl rfl ?_
  refine L_iload (q := 1215) dL_law_1213 rfl rfl ?_
  refine L_iconst (q := 1216) dL_law_1215 rfl rfl ?_
  refine L_iadd (q := 1217) dL_law_1216 rfl ?_
  rw [e_2]
  refine L_sld (q := 1218) dL_law_1217 (by omega) rfl ?_
  refine L_call (q := 1221) (vI r2) (kX11_thud 4 (by decide) hg) (by decide) mvL_134 (rfl : kD 70 = (11 + 10, 54)) rfl rfl rfl rfl rfl (by omega) dL_law_1218 rfl ?_
  refine L_pop (q := 1222) dL_law_1221 trivial rfl ?_
  refine L_goto (q := 1609) dL_law_1222 (by decide) ?_
  exact hgo _ hI

set_option maxHeartbeats 4000000 in
set_option maxRecDepth 100000 in
theorem law_case_fit {Inv Inv' : Mm → Prop} (hst : s_fit Inv Inv') {L i : Nat} {sc : Nat → Int} {μ : Mm} {v : Int64} {k n : Nat} (hL : L ≤ 3072) (hi : i + 6 ≤ L) (hsc : ∀ j, rI (sc j)) (hI : Inv μ) (hk : k ≤ 500000 ∧ n ≤ 5000000) (hgo : ∀ μ2, Inv' μ2 → LL L sc 1609 [some (vR 99), some (vR 0), some (vR 70), some (vR 98), some (vI (i : Int)), none, none] [] μ2 v k n) : LL L sc 1225 [some (vR 99), some (vR 0), some (vR 70), some (vR 98), some (vI (i : Int)), none, none] [] μ v k n := by
  have e_1 : iA (i : Int) 1 = ((i + 1 : Nat) : Int) := by rw [iA, wI_id (by omega) (by omega)]; omega
  have e_2 : iA (i : Int) 2 = ((i + 2 : Nat) : Int) := by rw [iA, wI_id (by omega) (by omega)]; omega
  obtain ⟨r, μ1, r2, μ2, hf, hg, hI⟩ := hst (sc (((i + 1 : Nat) : Int).toNat)) (hsc _) (sc (((i + 2 : Nat) : Int).toNat)) (hsc _) μ hI
  refine L_aload_n (q := 1226) dL_law_1225 rfl rfl rfl ?_
  refine L_aload_n (q := 1227) dL_law_1226 rfl rfl rfl ?_
  refine L_iload (q := 1229) dL_law_1227 rfl rfl ?_
  refine L_iconst (q := 1230) dL_law_1229 rfl rfl ?_
  refine L_iadd (q := 1231) dL_law_1230 rfl ?_
  rw [e_1]
  refine L_sld (q := 1232) dL_law_1231 (by omega) rfl ?_
  refine L_aload_n (q := 1233) dL_law_1232 rfl rfl rfl ?_
  refine L_iload (q := 1235) dL_law_1233 rfl rfl ?_
  refine L_iconst (q := 1236) dL_law_1235 rfl rfl ?_
  refine L_iadd (q := 1237) dL_law_1236 rfl ?_
  rw [e_2]
  refine L_sld (q := 1238) dL_law_1237 (by omega) rfl ?_
  refine L_call (q := 1241) (vI r) (kX10_fit 272 (by decide) hf) (by decide) mvL_135 (rfl : kD 0 = (10 + 10, 18)) rfl rfl rfl rfl rfl (by omega) dL_law_1238 rfl ?_
  refine L_pop (q := 1242) dL_law_1241 trivial rfl ?_
  refine L_aload_n (q := 1243) dL_law_1242 rfl rfl rfl ?_
  refine L_aload_n (q := 1244) dL_law_1243 rfl rfl rfl ?_
  refine L_iload (q := 1246) dL_law_1244 rfl rfl ?_
  refine L_iconst (q := 1247) dL_law_1246 rfl rfl ?_
  refine L_iadd (q := 1248) dL_law_1247 rfl ?_
  rw [e_1]
  refine L_sld (q := 1249) dL_law_1248 (by omega) rfl ?_
  refine L_aload_n (q := 1250) dL_law_1249 rfl rfl rfl ?_
  refine L_iload (q := 1252) dL_law_1250 rfl rfl ?_
  refine L_iconst (q := 1253) dL_law_1252 rfl rfl ?_
  refine L_iadd (q := 1254) dL_law_1253 rfl ?_
  rw [e_2]
  refine L_sld (q := 1255) dL_law_1254 (by omega) rfl ?_
  refine L_call (q := 1258) (vI r2) (kX11_fit 135 (by decide) hg) (by decide) mvL_138 (rfl : kD 70 = (11 + 10, 54)) rfl rfl rfl rfl rfl (by omega) dL_law_1255 rfl ?_
  refine L_pop (q := 1259) dL_law_1258 trivial rfl ?_
  refine L_goto (q := 1609) dL_law_1259 (by decide) ?_
  exact hgo _ hI

set_option maxHeartbeats 4000000 in
set_option maxRecDepth 100000 in
theorem law_case_boy {Inv Inv' : Mm → Prop} (hst : s_boy Inv Inv') {L i : Nat} {sc : Nat → Int} {μ : Mm} {v : Int64} {k n : Nat} (hL : L ≤ 3072) (hi : i + 6 ≤ L) (hsc : ∀ j, rI (sc j)) (hI : Inv μ) (hk : k ≤ 500000 ∧ n ≤ 5000000) (hgo : ∀ μ2, Inv' μ2 → LL L sc 1609 [some (vR 99), some (vR 0), some (vR 70), some (vR 98), some (vI (i : Int)), none, none] [] μ2 v k n) : LL L sc 1262 [some (vR 99), some (vR 0), some (vR 70), some (vR 98), some (vI (i : Int)), none, none] [] μ v k n := by
  have e_1 : iA (i : Int) 1 = ((i + 1 : Nat) : Int) := by rw [iA, wI_id (by omega) (by omega)]; omega
  have e_2 : iA (i : Int) 2 = ((i + 2 : Nat) : Int) := by rw [iA, wI_id (by omega) (by omega)]; omega
  have e_3 : iA (i : Int) 3 = ((i + 3 : Nat) : Int) := by rw [iA, wI_id (by omega) (by omega)]; omega
  have e_4 : iA (i : Int) 4 = ((i + 4 : Nat) : Int) := by rw [iA, wI_id (by omega) (by omega)]; omega
  obtain ⟨r, μ1, r2, μ2, hf, hg, hI⟩ := hst (sc (((i + 1 : Nat) : Int).toNat)) (hsc _) (sc (((i + 2 : Nat) : Int).toNat)) (hsc _) (sc (((i + 3 : Nat) : Int).toNat)) (hsc _) (sc (((i + 4 : Nat) : Int).toNat)) (hsc _) μ hI
  refine L_aload_n (q := 1263) dL_law_1262 rfl rfl rfl ?_
  refine L_aload_n (q := 1264) dL_law_1263 rfl rfl rfl ?_
  refine L_iload (q := 1266) dL_law_1264 rfl rfl ?_
  refine L_iconst (q := 1267) dL_law_1266 rfl rfl ?_
  refine L_iadd (q := 1268) dL_law_1267 rfl ?_
  rw [e_1]
  refine L_sld (q := 1269) dL_law_1268 (by omega) rfl ?_
  refine L_aload_n (q := 1270) dL_law_1269 rfl rfl rfl ?_
  refine L_iload (q := 1272) dL_law_1270 rfl rfl ?_
  refine L_iconst (q := 1273) dL_law_1272 rfl rfl ?_
  refine L_iadd (q := 1274) dL_law_1273 rfl ?_
  rw [e_2]
  refine L_sld (q := 1275) dL_law_1274 (by omega) rfl ?_
  refine L_aload_n (q := 1276) dL_law_1275 rfl rfl rfl ?_
  refine L_iload (q := 1278) dL_law_1276 rfl rfl ?_
  refine L_iconst (q := 1279) dL_law_1278 rfl rfl ?_
  refine L_iadd (q := 1280) dL_law_1279 rfl ?_
  rw [e_3]
  refine L_sld (q := 1281) dL_law_1280 (by omega) rfl ?_
  refine L_aload_n (q := 1282) dL_law_1281 rfl rfl rfl ?_
  refine L_iload (q := 1284) dL_law_1282 rfl rfl ?_
  refine L_iconst (q := 1285) dL_law_1284 rfl rfl ?_
  refine L_iadd (q := 1286) dL_law_1285 rfl ?_
  rw [e_4]
  refine L_sld (q := 1287) dL_law_1286 (by omega) rfl ?_
  refine L_call (q := 1290) (vI r) (kX10_boy 272 (by decide) hf) (by decide) mvL_139 (rfl : kD 0 = (10 + 10, 18)) rfl rfl rfl rfl rfl (by omega) dL_law_1287 rfl ?_
  refine L_pop (q := 1291) dL_law_1290 trivial rfl ?_
  refine L_aload_n (q := 1292) dL_law_1291 rfl rfl rfl ?_
  refine L_aload_n (q := 1293) dL_law_1292 rfl rfl rfl ?_
  refine L_iload (q := 1295) dL_law_1293 rfl rfl ?_
  refine L_iconst (q := 1296) dL_law_1295 rfl rfl ?_
  refine L_iadd (q := 1297) dL_law_1296 rfl ?_
  rw [e_1]
  refine L_sld (q := 1298) dL_law_1297 (by omega) rfl ?_
  refine L_aload_n (q := 1299) dL_law_1298 rfl rfl rfl ?_
  refine L_iload (q := 1301) dL_law_1299 rfl rfl ?_
  refine L_iconst (q := 1302) dL_law_1301 rfl rfl ?_
  refine L_iadd (q := 1303) dL_law_1302 rfl ?_
  rw [e_2]
  refine L_sld (q := 1304) dL_law_1303 (by omega) rfl ?_
  refine L_aload_n (q := 1305) dL_law_1304 rfl rfl rfl ?_
  refine L_iload (q := 1307) dL_law_1305 rfl rfl ?_
  refine L_iconst (q := 1308) dL_law_1307 rfl rfl ?_
  refine L_iadd (q := 1309) dL_law_1308 rfl ?_
  rw [e_3]
  refine L_sld (q := 1310) dL_law_1309 (by omega) rfl ?_
  refine L_aload_n (q := 1311) dL_law_1310 rfl rfl rfl ?_
  refine L_iload (q := 1313) dL_law_1311 rfl rfl ?_
  refine L_iconst (q := 1314) dL_law_1313 rfl rfl ?_
  refine L_iadd (q := 1315) dL_law_1314 rfl ?_
  rw [e_4]
  refine L_sld (q := 1316) dL_law_1315 (by omega) rfl ?_
  refine L_call (q := 1319) (vI r2) (kX11_boy 134 (by decide) hg) (by decide) mvL_142 (rfl : kD 70 = (11 + 10, 54)) rfl rfl rfl rfl rfl (by omega) dL_law_1316 rfl ?_
  refine L_pop (q := 1320) dL_law_1319 trivial rfl ?_
  refine L_goto (q := 1609) dL_law_1320 (by decide) ?_
  exact hgo _ hI

set_option maxHeartbeats 4000000 in
set_option maxRecDepth 100000 in
theorem law_case_out {Inv Inv' : Mm → Prop} (hst : s_out Inv Inv') {L i : Nat} {sc : Nat → Int} {μ : Mm} {v : Int64} {k n : Nat} (hL : L ≤ 3072) (hi : i + 6 ≤ L) (hsc : ∀ j, rI (sc j)) (hI : Inv μ) (hk : k ≤ 500000 ∧ n ≤ 5000000) (hgo : ∀ μ2, Inv' μ2 → LL L sc 1609 [some (vR 99), some (vR 0), some (vR 70), some (vR 98), some (vI (i : Int)), none, none] [] μ2 v k n) : LL L sc 1323 [some (vR 99), some (vR 0), some (vR 70), some (vR 98), some (vI (i : Int)), none, none] [] μ v k n := by
  have e_1 : iA (i : Int) 1 = ((i + 1 : Nat) : Int) := by rw [iA, wI_id (by omega) (by omega)]; omega
  obtain ⟨r, μ1, r2, μ2, hf, hg, hI⟩ := hst (sc (((i + 1 : Nat) : Int).toNat)) (hsc _) μ hI
  refine L_aload_n (q := 1324) dL_law_1323 rfl rfl rfl ?_
  refine L_aload_n (q := 1325) dL_law_1324 rfl rfl rfl ?_
  refine L_iload (q := 1327) dL_law_1325 rfl rfl ?_
  refine L_iconst (q := 1328) dL_law_1327 rfl rfl ?_
  refine L_iadd (q := 1329) dL_law_1328 rfl ?_
  rw [e_1]
  refine L_sld (q := 1330) dL_law_1329 (by omega) rfl ?_
  refine L_call (q := 1333) (vI r) (kX10_out 4 (by decide) hf) (by decide) mvL_143 (rfl : kD 0 = (10 + 10, 18)) rfl rfl rfl rfl rfl (by omega) dL_law_1330 rfl ?_
  refine L_pop (q := 1334) dL_law_1333 trivial rfl ?_
  refine L_aload_n (q := 1335) dL_law_1334 rfl rfl rfl ?_
  refine L_aload_n (q := 1336) dL_law_1335 rfl rfl rfl ?_
  refine L_iload (q := 1338) dL_law_1336 rfl rfl ?_
  refine L_iconst (q := 1339) dL_law_1338 rfl rfl ?_
  refine L_iadd (q := 1340) dL_law_1339 rfl ?_
  rw [e_1]
  refine L_sld (q := 1341) dL_law_1340 (by omega) rfl ?_
  refine L_call (q := 1344) (vI r2) (kX11_out 4 (by decide) hg) (by decide) mvL_146 (rfl : kD 70 = (11 + 10, 54)) rfl rfl rfl rfl rfl (by omega) dL_law_1341 rfl ?_
  refine L_pop (q := 1345) dL_law_1344 trivial rfl ?_
  refine L_goto (q := 1609) dL_law_1345 (by decide) ?_
  exact hgo _ hI

set_option maxHeartbeats 4000000 in
set_option maxRecDepth 100000 in
theorem law_case_walk {Inv Inv' : Mm → Prop} (hst : s_walk Inv Inv') {L i : Nat} {sc : Nat → Int} {μ : Mm} {v : Int64} {k n : Nat} (hL : L ≤ 3072) (hi : i + 6 ≤ L) (hsc : ∀ j, rI (sc j)) (hI : Inv μ) (hk : k ≤ 500000 ∧ n ≤ 5000000) (hgo : ∀ μ2, Inv' μ2 → LL L sc 1609 [some (vR 99), some (vR 0), some (vR 70), some (vR 98), some (vI (i : Int)), none, none] [] μ2 v k n) : LL L sc 1348 [some (vR 99), some (vR 0), some (vR 70), some (vR 98), some (vI (i : Int)), none, none] [] μ v k n := by
  have e_1 : iA (i : Int) 1 = ((i + 1 : Nat) : Int) := by rw [iA, wI_id (by omega) (by omega)]; omega
  have e_2 : iA (i : Int) 2 = ((i + 2 : Nat) : Int) := by rw [iA, wI_id (by omega) (by omega)]; omega
  have e_3 : iA (i : Int) 3 = ((i + 3 : Nat) : Int) := by rw [iA, wI_id (by omega) (by omega)]; omega
  obtain ⟨r, μ1, r2, μ2, hf, hg, hI⟩ := hst (sc (((i + 1 : Nat) : Int).toNat)) (hsc _) (sc (((i + 2 : Nat) : Int).toNat)) (hsc _) (sc (((i + 3 : Nat) : Int).toNat)) (hsc _) μ hI
  refine L_aload_n (q := 1349) dL_law_1348 rfl rfl rfl ?_
  refine L_aload_n (q := 1350) dL_law_1349 rfl rfl rfl ?_
  refine L_iload (q := 1352) dL_law_1350 rfl rfl ?_
  refine L_iconst (q := 1353) dL_law_1352 rfl rfl ?_
  refine L_iadd (q := 1354) dL_law_1353 rfl ?_
  rw [e_1]
  refine L_sld (q := 1355) dL_law_1354 (by omega) rfl ?_
  refine L_aload_n (q := 1356) dL_law_1355 rfl rfl rfl ?_
  refine L_iload (q := 1358) dL_law_1356 rfl rfl ?_
  refine L_iconst (q := 1359) dL_law_1358 rfl rfl ?_
  refine L_iadd (q := 1360) dL_law_1359 rfl ?_
  rw [e_2]
  refine L_sld (q := 1361) dL_law_1360 (by omega) rfl ?_
  refine L_aload_n (q := 1362) dL_law_1361 rfl rfl rfl ?_
  refine L_iload (q := 1364) dL_law_1362 rfl rfl ?_
  refine L_iconst (q := 1365) dL_law_1364 rfl rfl ?_
  refine L_iadd (q := 1366) dL_law_1365 rfl ?_
  rw [e_3]
  refine L_sld (q := 1367) dL_law_1366 (by omega) rfl ?_
  refine L_call (q := 1370) (vI r) (kX10_walk 273 (by decide) hf) (by decide) mvL_147 (rfl : kD 0 = (10 + 10, 18)) rfl rfl rfl rfl rfl (by omega) dL_law_1367 rfl ?_
  refine L_pop (q := 1371) dL_law_1370 trivial rfl ?_
  refine L_aload_n (q := 1372) dL_law_1371 rfl rfl rfl ?_
  refine L_aload_n (q := 1373) dL_law_1372 rfl rfl rfl ?_
  refine L_iload (q := 1375) dL_law_1373 rfl rfl ?_
  refine L_iconst (q := 1376) dL_law_1375 rfl rfl ?_
  refine L_iadd (q := 1377) dL_law_1376 rfl ?_
  rw [e_1]
  refine L_sld (q := 1378) dL_law_1377 (by omega) rfl ?_
  refine L_aload_n (q := 1379) dL_law_1378 rfl rfl rfl ?_
  refine L_iload (q := 1381) dL_law_1379 rfl rfl ?_
  refine L_iconst (q := 1382) dL_law_1381 rfl rfl ?_
  refine L_iadd (q := 1383) dL_law_1382 rfl ?_
  rw [e_2]
  refine L_sld (q := 1384) dL_law_1383 (by omega) rfl ?_
  refine L_aload_n (q := 1385) dL_law_1384 rfl rfl rfl ?_
  refine L_iload (q := 1387) dL_law_1385 rfl rfl ?_
  refine L_iconst (q := 1388) dL_law_1387 rfl rfl ?_
  refine L_iadd (q := 1389) dL_law_1388 rfl ?_
  rw [e_3]
  refine L_sld (q := 1390) dL_law_1389 (by omega) rfl ?_
  refine L_call (q := 1393) (vI r2) (kX11_walk 7 (by decide) hg) (by decide) mvL_150 (rfl : kD 70 = (11 + 10, 54)) rfl rfl rfl rfl rfl (by omega) dL_law_1390 rfl ?_
  refine L_pop (q := 1394) dL_law_1393 trivial rfl ?_
  refine L_goto (q := 1609) dL_law_1394 (by decide) ?_
  exact hgo _ hI

set_option maxHeartbeats 4000000 in
set_option maxRecDepth 100000 in
theorem law_case_mend {Inv Inv' : Mm → Prop} (hst : s_mend Inv Inv') {L i : Nat} {sc : Nat → Int} {μ : Mm} {v : Int64} {k n : Nat} (hL : L ≤ 3072) (hi : i + 6 ≤ L) (hsc : ∀ j, rI (sc j)) (hI : Inv μ) (hk : k ≤ 500000 ∧ n ≤ 5000000) (hgo : ∀ μ2, Inv' μ2 → LL L sc 1609 [some (vR 99), some (vR 0), some (vR 70), some (vR 98), some (vI (i : Int)), none, none] [] μ2 v k n) : LL L sc 1397 [some (vR 99), some (vR 0), some (vR 70), some (vR 98), some (vI (i : Int)), none, none] [] μ v k n := by
  have e_1 : iA (i : Int) 1 = ((i + 1 : Nat) : Int) := by rw [iA, wI_id (by omega) (by omega)]; omega
  have e_2 : iA (i : Int) 2 = ((i + 2 : Nat) : Int) := by rw [iA, wI_id (by omega) (by omega)]; omega
  have e_3 : iA (i : Int) 3 = ((i + 3 : Nat) : Int) := by rw [iA, wI_id (by omega) (by omega)]; omega
  obtain ⟨r, μ1, r2, μ2, hf, hg, hI⟩ := hst (sc (((i + 1 : Nat) : Int).toNat)) (hsc _) (sc (((i + 2 : Nat) : Int).toNat)) (hsc _) (sc (((i + 3 : Nat) : Int).toNat)) (hsc _) μ hI
  refine L_aload_n (q := 1398) dL_law_1397 rfl rfl rfl ?_
  refine L_aload_n (q := 1399) dL_law_1398 rfl rfl rfl ?_
  refine L_iload (q := 1401) dL_law_1399 rfl rfl ?_
  refine L_iconst (q := 1402) dL_law_1401 rfl rfl ?_
  refine L_iadd (q := 1403) dL_law_1402 rfl ?_
  rw [e_1]
  refine L_sld (q := 1404) dL_law_1403 (by omega) rfl ?_
  refine L_aload_n (q := 1405) dL_law_1404 rfl rfl rfl ?_
  refine L_iload (q := 1407) dL_law_1405 rfl rfl ?_
  refine L_iconst (q := 1408) dL_law_1407 rfl rfl ?_
  refine L_iadd (q := 1409) dL_law_1408 rfl ?_
  rw [e_2]
  refine L_sld (q := 1410) dL_law_1409 (by omega) rfl ?_
  refine L_aload_n (q := 1411) dL_law_1410 rfl rfl rfl ?_
  refine L_iload (q := 1413) dL_law_1411 rfl rfl ?_
  refine L_iconst (q := 1414) dL_law_1413 rfl rfl ?_
  refine L_iadd (q := 1415) dL_law_1414 rfl ?_
  rw [e_3]
  refine L_sld (q := 1416) dL_law_1415 (by omega) rfl ?_
  refine L_call (q := 1419) (vI r) (kX10_mend 272 (by decide) hf) (by decide) mvL_151 (rfl : kD 0 = (10 + 10, 18)) rfl rfl rfl rfl rfl (by omega) dL_law_1416 rfl ?_
  refine L_pop (q := 1420) dL_law_1419 trivial rfl ?_
  refine L_aload_n (q := 1421) dL_law_1420 rfl rfl rfl ?_
  refine L_aload_n (q := 1422) dL_law_1421 rfl rfl rfl ?_
  refine L_iload (q := 1424) dL_law_1422 rfl rfl ?_
  refine L_iconst (q := 1425) dL_law_1424 rfl rfl ?_
  refine L_iadd (q := 1426) dL_law_1425 rfl ?_
  rw [e_1]
  refine L_sld (q := 1427) dL_law_1426 (by omega) rfl ?_
  refine L_aload_n (q := 1428) dL_law_1427 rfl rfl rfl ?_
  refine L_iload (q := 1430) dL_law_1428 rfl rfl ?_
  refine L_iconst (q := 1431) dL_law_1430 rfl rfl ?_
  refine L_iadd (q := 1432) dL_law_1431 rfl ?_
  rw [e_2]
  refine L_sld (q := 1433) dL_law_1432 (by omega) rfl ?_
  refine L_aload_n (q := 1434) dL_law_1433 rfl rfl rfl ?_
  refine L_iload (q := 1436) dL_law_1434 rfl rfl ?_
  refine L_iconst (q := 1437) dL_law_1436 rfl rfl ?_
  refine L_iadd (q := 1438) dL_law_1437 rfl ?_
  rw [e_3]
  refine L_sld (q := 1439) dL_law_1438 (by omega) rfl ?_
  refine L_call (q := 1442) (vI r2) (kX11_mend 133 (by decide) hg) (by decide) mvL_154 (rfl : kD 70 = (11 + 10, 54)) rfl rfl rfl rfl rfl (by omega) dL_law_1439 rfl ?_
  refine L_pop (q := 1443) dL_law_1442 trivial rfl ?_
  refine L_goto (q := 1609) dL_law_1443 (by decide) ?_
  exact hgo _ hI

set_option maxHeartbeats 4000000 in
set_option maxRecDepth 100000 in
theorem law_case_slack {Inv Inv' : Mm → Prop} (hst : s_slack Inv Inv') {L i : Nat} {sc : Nat → Int} {μ : Mm} {v : Int64} {k n : Nat} (hL : L ≤ 3072) (hi : i + 6 ≤ L) (hsc : ∀ j, rI (sc j)) (hI : Inv μ) (hk : k ≤ 500000 ∧ n ≤ 5000000) (hgo : ∀ μ2, Inv' μ2 → LL L sc 1609 [some (vR 99), some (vR 0), some (vR 70), some (vR 98), some (vI (i : Int)), none, none] [] μ2 v k n) : LL L sc 1446 [some (vR 99), some (vR 0), some (vR 70), some (vR 98), some (vI (i : Int)), none, none] [] μ v k n := by
  have e_1 : iA (i : Int) 1 = ((i + 1 : Nat) : Int) := by rw [iA, wI_id (by omega) (by omega)]; omega
  have e_2 : iA (i : Int) 2 = ((i + 2 : Nat) : Int) := by rw [iA, wI_id (by omega) (by omega)]; omega
  obtain ⟨r, μ1, r2, μ2, hf, hg, hI⟩ := hst (sc (((i + 1 : Nat) : Int).toNat)) (hsc _) (sc (((i + 2 : Nat) : Int).toNat)) (hsc _) μ hI
  refine L_aload_n (q := 1447) dL_law_1446 rfl rfl rfl ?_
  refine L_aload_n (q := 1448) dL_law_1447 rfl rfl rfl ?_
  refine L_iload (q := 1450) dL_law_1448 rfl rfl ?_
  refine L_iconst (q := 1451) dL_law_1450 rfl rfl ?_
  refine L_iadd (q := 1452) dL_law_1451 rfl ?_
  rw [e_1]
  refine L_sld (q := 1453) dL_law_1452 (by omega) rfl ?_
  refine L_aload_n (q := 1454) dL_law_1453 rfl rfl rfl ?_
  refine L_iload (q := 1456) dL_law_1454 rfl rfl ?_
  refine L_iconst (q := 1457) dL_law_1456 rfl rfl ?_
  refine L_iadd (q := 1458) dL_law_1457 rfl ?_
  rw [e_2]
  refine L_sld (q := 1459) dL_law_1458 (by omega) rfl ?_
  refine L_call (q := 1462) (vI r) (kX10_slack 272 (by decide) hf) (by decide) mvL_155 (rfl : kD 0 = (10 + 10, 18)) rfl rfl rfl rfl rfl (by omega) dL_law_1459 rfl ?_
  refine L_pop (q := 1463) dL_law_1462 trivial rfl ?_
  refine L_aload_n (q := 1464) dL_law_1463 rfl rfl rfl ?_
  refine L_aload_n (q := 1465) dL_law_1464 rfl rfl rfl ?_
  refine L_iload (q := 1467) dL_law_1465 rfl rfl ?_
  refine L_iconst (q := 1468) dL_law_1467 rfl rfl ?_
  refine L_iadd (q := 1469) dL_law_1468 rfl ?_
  rw [e_1]
  refine L_sld (q := 1470) dL_law_1469 (by omega) rfl ?_
  refine L_aload_n (q := 1471) dL_law_1470 rfl rfl rfl ?_
  refine L_iload (q := 1473) dL_law_1471 rfl rfl ?_
  refine L_iconst (q := 1474) dL_law_1473 rfl rfl ?_
  refine L_iadd (q := 1475) dL_law_1474 rfl ?_
  rw [e_2]
  refine L_sld (q := 1476) dL_law_1475 (by omega) rfl ?_
  refine L_call (q := 1479) (vI r2) (kX11_slack 7 (by decide) hg) (by decide) mvL_158 (rfl : kD 70 = (11 + 10, 54)) rfl rfl rfl rfl rfl (by omega) dL_law_1476 rfl ?_
  refine L_pop (q := 1480) dL_law_1479 trivial rfl ?_
  refine L_goto (q := 1609) dL_law_1480 (by decide) ?_
  exact hgo _ hI

set_option maxHeartbeats 4000000 in
set_option maxRecDepth 100000 in
theorem law_case_urgent {Inv Inv' : Mm → Prop} (hst : s_urgent Inv Inv') {L i : Nat} {sc : Nat → Int} {μ : Mm} {v : Int64} {k n : Nat} (hL : L ≤ 3072) (hi : i + 6 ≤ L) (hsc : ∀ j, rI (sc j)) (hI : Inv μ) (hk : k ≤ 500000 ∧ n ≤ 5000000) (hgo : ∀ μ2, Inv' μ2 → LL L sc 1609 [some (vR 99), some (vR 0), some (vR 70), some (vR 98), some (vI (i : Int)), none, none] [] μ2 v k n) : LL L sc 1483 [some (vR 99), some (vR 0), some (vR 70), some (vR 98), some (vI (i : Int)), none, none] [] μ v k n := by
  have e_1 : iA (i : Int) 1 = ((i + 1 : Nat) : Int) := by rw [iA, wI_id (by omega) (by omega)]; omega
  obtain ⟨r, μ1, r2, μ2, hf, hg, hI⟩ := hst (sc (((i + 1 : Nat) : Int).toNat)) (hsc _) μ hI
  refine L_aload_n (q := 1484) dL_law_1483 rfl rfl rfl ?_
  refine L_aload_n (q := 1485) dL_law_1484 rfl rfl rfl ?_
  refine L_iload (q := 1487) dL_law_1485 rfl rfl ?_
  refine L_iconst (q := 1488) dL_law_1487 rfl rfl ?_
  refine L_iadd (q := 1489) dL_law_1488 rfl ?_
  rw [e_1]
  refine L_sld (q := 1490) dL_law_1489 (by omega) rfl ?_
  refine L_call (q := 1493) (vI r) (kX10_urgent 272 (by decide) hf) (by decide) mvL_159 (rfl : kD 0 = (10 + 10, 18)) rfl rfl rfl rfl rfl (by omega) dL_law_1490 rfl ?_
  refine L_pop (q := 1494) dL_law_1493 trivial rfl ?_
  refine L_aload_n (q := 1495) dL_law_1494 rfl rfl rfl ?_
  refine L_aload_n (q := 1496) dL_law_1495 rfl rfl rfl ?_
  refine L_iload (q := 1498) dL_law_1496 rfl rfl ?_
  refine L_iconst (q := 1499) dL_law_1498 rfl rfl ?_
  refine L_iadd (q := 1500) dL_law_1499 rfl ?_
  rw [e_1]
  refine L_sld (q := 1501) dL_law_1500 (by omega) rfl ?_
  refine L_call (q := 1504) (vI r2) (kX11_urgent 134 (by decide) hg) (by decide) mvL_162 (rfl : kD 70 = (11 + 10, 54)) rfl rfl rfl rfl rfl (by omega) dL_law_1501 rfl ?_
  refine L_pop (q := 1505) dL_law_1504 trivial rfl ?_
  refine L_goto (q := 1609) dL_law_1505 (by decide) ?_
  exact hgo _ hI

set_option maxHeartbeats 4000000 in
set_option maxRecDepth 100000 in
theorem law_case_dead {Inv Inv' : Mm → Prop} (hst : s_dead Inv Inv') {L i : Nat} {sc : Nat → Int} {μ : Mm} {v : Int64} {k n : Nat} (hL : L ≤ 3072) (hi : i + 6 ≤ L) (hsc : ∀ j, rI (sc j)) (hI : Inv μ) (hk : k ≤ 500000 ∧ n ≤ 5000000) (hgo : ∀ μ2, Inv' μ2 → LL L sc 1609 [some (vR 99), some (vR 0), some (vR 70), some (vR 98), some (vI (i : Int)), none, none] [] μ2 v k n) : LL L sc 1508 [some (vR 99), some (vR 0), some (vR 70), some (vR 98), some (vI (i : Int)), none, none] [] μ v k n := by
  obtain ⟨r, μ1, r2, μ2, hf, hg, hI⟩ := hst μ hI
  refine L_aload_n (q := 1509) dL_law_1508 rfl rfl rfl ?_
  refine L_call (q := 1512) (vI r) (kX10_dead 4 (by decide) hf) (by decide) mvL_163 (rfl : kD 0 = (10 + 10, 18)) rfl rfl rfl rfl rfl (by omega) dL_law_1509 rfl ?_
  refine L_pop (q := 1513) dL_law_1512 trivial rfl ?_
  refine L_aload_n (q := 1514) dL_law_1513 rfl rfl rfl ?_
  refine L_call (q := 1517) (vI r2) (kX11_dead 4 (by decide) hg) (by decide) mvL_166 (rfl : kD 70 = (11 + 10, 54)) rfl rfl rfl rfl rfl (by omega) dL_law_1514 rfl ?_
  refine L_pop (q := 1518) dL_law_1517 trivial rfl ?_
  refine L_goto (q := 1609) dL_law_1518 (by decide) ?_
  exact hgo _ hI

set_option maxHeartbeats 4000000 in
set_option maxRecDepth 100000 in
theorem law_case_pillar {Inv Inv' : Mm → Prop} (hst : s_pillar Inv Inv') {L i : Nat} {sc : Nat → Int} {μ : Mm} {v : Int64} {k n : Nat} (hL : L ≤ 3072) (hi : i + 6 ≤ L) (hsc : ∀ j, rI (sc j)) (hI : Inv μ) (hk : k ≤ 500000 ∧ n ≤ 5000000) (hgo : ∀ μ2, Inv' μ2 → LL L sc 1609 [some (vR 99), some (vR 0), some (vR 70), some (vR 98), some (vI (i : Int)), none, none] [] μ2 v k n) : LL L sc 1521 [some (vR 99), some (vR 0), some (vR 70), some (vR 98), some (vI (i : Int)), none, none] [] μ v k n := by
  have e_1 : iA (i : Int) 1 = ((i + 1 : Nat) : Int) := by rw [iA, wI_id (by omega) (by omega)]; omega
  have e_2 : iA (i : Int) 2 = ((i + 2 : Nat) : Int) := by rw [iA, wI_id (by omega) (by omega)]; omega
  obtain ⟨r, μ1, r2, μ2, hf, hg, hI⟩ := hst (sc (((i + 1 : Nat) : Int).toNat)) (hsc _) (sc (((i + 2 : Nat) : Int).toNat)) (hsc _) μ hI
  refine L_aload_n (q := 1522) dL_law_1521 rfl rfl rfl ?_
  refine L_aload_n (q := 1523) dL_law_1522 rfl rfl rfl ?_
  refine L_iload (q := 1525) dL_law_1523 rfl rfl ?_
  refine L_iconst (q := 1526) dL_law_1525 rfl rfl ?_
  refine L_iadd (q := 1527) dL_law_1526 rfl ?_
  rw [e_1]
  refine L_sld (q := 1528) dL_law_1527 (by omega) rfl ?_
  refine L_aload_n (q := 1529) dL_law_1528 rfl rfl rfl ?_
  refine L_iload (q := 1531) dL_law_1529 rfl rfl ?_
  refine L_iconst (q := 1532) dL_law_1531 rfl rfl ?_
  refine L_iadd (q := 1533) dL_law_1532 rfl ?_
  rw [e_2]
  refine L_sld (q := 1534) dL_law_1533 (by omega) rfl ?_
  refine L_call (q := 1537) (vI r) (kX10_pillar 272 (by decide) hf) (by decide) mvL_167 (rfl : kD 0 = (10 + 10, 18)) rfl rfl rfl rfl rfl (by omega) dL_law_1534 rfl ?_
  refine L_pop (q := 1538) dL_law_1537 trivial rfl ?_
  refine L_aload_n (q := 1539) dL_law_1538 rfl rfl rfl ?_
  refine L_aload_n (q := 1540) dL_law_1539 rfl rfl rfl ?_
  refine L_iload (q := 1542) dL_law_1540 rfl rfl ?_
  refine L_iconst (q := 1543) dL_law_1542 rfl rfl ?_
  refine L_iadd (q := 1544) dL_law_1543 rfl ?_
  rw [e_1]
  refine L_sld (q := 1545) dL_law_1544 (by omega) rfl ?_
  refine L_aload_n (q := 1546) dL_law_1545 rfl rfl rfl ?_
  refine L_iload (q := 1548) dL_law_1546 rfl rfl ?_
  refine L_iconst (q := 1549) dL_law_1548 rfl rfl ?_
  refine L_iadd (q := 1550) dL_law_1549 rfl ?_
  rw [e_2]
  refine L_sld (q := 1551) dL_law_1550 (by omega) rfl ?_
  refine L_call (q := 1554) (vI r2) (kX11_pillar 135 (by decide) hg) (by decide) mvL_170 (rfl : kD 70 = (11 + 10, 54)) rfl rfl rfl rfl rfl (by omega) dL_law_1551 rfl ?_
  refine L_pop (q := 1555) dL_law_1554 trivial rfl ?_
  refine L_goto (q := 1609) dL_law_1555 (by decide) ?_
  exact hgo _ hI

set_option maxHeartbeats 4000000 in
set_option maxRecDepth 100000 in
theorem law_case_image {Inv Inv' : Mm → Prop} (hst : s_image Inv Inv') {L i : Nat} {sc : Nat → Int} {μ : Mm} {v : Int64} {k n : Nat} (hL : L ≤ 3072) (hi : i + 6 ≤ L) (hsc : ∀ j, rI (sc j)) (hI : Inv μ) (hk : k ≤ 500000 ∧ n ≤ 5000000) (hgo : ∀ μ2, Inv' μ2 → LL L sc 1609 [some (vR 99), some (vR 0), some (vR 70), some (vR 98), some (vI (i : Int)), none, none] [] μ2 v k n) : LL L sc 1558 [some (vR 99), some (vR 0), some (vR 70), some (vR 98), some (vI (i : Int)), none, none] [] μ v k n := by
  obtain ⟨r, μ1, r2, μ2, hf, hg, hI⟩ := hst μ hI
  refine L_aload_n (q := 1559) dL_law_1558 rfl rfl rfl ?_
  refine L_call (q := 1562) (vI r) (kX10_image 2 (by decide) hf) (by decide) mvL_171 (rfl : kD 0 = (10 + 10, 18)) rfl rfl rfl rfl rfl (by omega) dL_law_1559 rfl ?_
  refine L_pop (q := 1563) dL_law_1562 trivial rfl ?_
  refine L_aload_n (q := 1564) dL_law_1563 rfl rfl rfl ?_
  refine L_call (q := 1567) (vI r2) (kX11_image 3 (by decide) hg) (by decide) mvL_174 (rfl : kD 70 = (11 + 10, 54)) rfl rfl rfl rfl rfl (by omega) dL_law_1564 rfl ?_
  refine L_pop (q := 1568) dL_law_1567 trivial rfl ?_
  refine L_goto (q := 1609) dL_law_1568 (by decide) ?_
  exact hgo _ hI

set_option maxHeartbeats 4000000 in
set_option maxRecDepth 100000 in
theorem law_case_back {Inv Inv' : Mm → Prop} (hst : s_back Inv Inv') {L i : Nat} {sc : Nat → Int} {μ : Mm} {v : Int64} {k n : Nat} (hL : L ≤ 3072) (hi : i + 6 ≤ L) (hsc : ∀ j, rI (sc j)) (hI : Inv μ) (hk : k ≤ 500000 ∧ n ≤ 5000000) (hgo : ∀ μ2, Inv' μ2 → LL L sc 1609 [some (vR 99), some (vR 0), some (vR 70), some (vR 98), some (vI (i : Int)), none, none] [] μ2 v k n) : LL L sc 1571 [some (vR 99), some (vR 0), some (vR 70), some (vR 98), some (vI (i : Int)), none, none] [] μ v k n := by
  obtain ⟨r, μ1, r2, μ2, hf, hg, hI⟩ := hst μ hI
  refine L_aload_n (q := 1572) dL_law_1571 rfl rfl rfl ?_
  refine L_call (q := 1575) (vI r) (kX10_back 2 (by decide) hf) (by decide) mvL_175 (rfl : kD 0 = (10 + 10, 18)) rfl rfl rfl rfl rfl (by omega) dL_law_1572 rfl ?_
  refine L_pop (q := 1576) dL_law_1575 trivial rfl ?_
  refine L_aload_n (q := 1577) dL_law_1576 rfl rfl rfl ?_
  refine L_call (q := 1580) (vI r2) (kX11_back 3 (by decide) hg) (by decide) mvL_178 (rfl : kD 70 = (11 + 10, 54)) rfl rfl rfl rfl rfl (by omega) dL_law_1577 rfl ?_
  refine L_pop (q := 1581) dL_law_1580 trivial rfl ?_
  refine L_goto (q := 1609) dL_law_1581 (by decide) ?_
  exact hgo _ hI

set_option maxHeartbeats 4000000 in
set_option maxRecDepth 100000 in
theorem law_case_count {Inv Inv' : Mm → Prop} (hst : s_count Inv Inv') {L i : Nat} {sc : Nat → Int} {μ : Mm} {v : Int64} {k n : Nat} (hL : L ≤ 3072) (hi : i + 6 ≤ L) (hsc : ∀ j, rI (sc j)) (hI : Inv μ) (hk : k ≤ 500000 ∧ n ≤ 5000000) (hgo : ∀ μ2, Inv' μ2 → LL L sc 1609 [some (vR 99), some (vR 0), some (vR 70), some (vR 98), some (vI (i : Int)), none, none] [] μ2 v k n) : LL L sc 1584 [some (vR 99), some (vR 0), some (vR 70), some (vR 98), some (vI (i : Int)), none, none] [] μ v k n := by
  have e_1 : iA (i : Int) 1 = ((i + 1 : Nat) : Int) := by rw [iA, wI_id (by omega) (by omega)]; omega
  obtain ⟨r, μ1, r2, μ2, hf, hg, hI⟩ := hst (sc (((i + 1 : Nat) : Int).toNat)) (hsc _) μ hI
  refine L_aload_n (q := 1585) dL_law_1584 rfl rfl rfl ?_
  refine L_aload_n (q := 1586) dL_law_1585 rfl rfl rfl ?_
  refine L_iload (q := 1588) dL_law_1586 rfl rfl ?_
  refine L_iconst (q := 1589) dL_law_1588 rfl rfl ?_
  refine L_iadd (q := 1590) dL_law_1589 rfl ?_
  rw [e_1]
  refine L_sld (q := 1591) dL_law_1590 (by omega) rfl ?_
  refine L_call (q := 1594) (vI r) (kX10_count 1 (by decide) hf) (by decide) mvL_179 (rfl : kD 0 = (10 + 10, 18)) rfl rfl rfl rfl rfl (by omega) dL_law_1591 rfl ?_
  refine L_pop (q := 1595) dL_law_1594 trivial rfl ?_
  refine L_aload_n (q := 1596) dL_law_1595 rfl rfl rfl ?_
  refine L_aload_n (q := 1597) dL_law_1596 rfl rfl rfl ?_
  refine L_iload (q := 1599) dL_law_1597 rfl rfl ?_
  refine L_iconst (q := 1600) dL_law_1599 rfl rfl ?_
  refine L_iadd (q := 1601) dL_law_1600 rfl ?_
  rw [e_1]
  refine L_sld (q := 1602) dL_law_1601 (by omega) rfl ?_
  refine L_call (q := 1605) (vI r2) (kX11_count 5 (by decide) hg) (by decide) mvL_182 (rfl : kD 70 = (11 + 10, 54)) rfl rfl rfl rfl rfl (by omega) dL_law_1602 rfl ?_
  refine L_pop (q := 1606) dL_law_1605 trivial rfl ?_
  refine L_goto (q := 1609) dL_law_1606 (by decide) ?_
  exact hgo _ hI

set_option maxHeartbeats 4000000 in
set_option maxRecDepth 100000 in
theorem law_case_crank (hCr : HCr) {Inv Inv' : Mm → Prop} (hst : sC Inv Inv') {L i : Nat} {sc : Nat → Int} {μ : Mm} {v : Int64} {k n : Nat} (hL : L ≤ 3072) (hi : i + 6 ≤ L) (hsc : ∀ j, rI (sc j)) (hI : Inv μ) (hk : k ≤ 500000 ∧ n ≤ 5000000) (hgo : ∀ μ2 v2, Inv' μ2 → LL L sc 1609 [some (vR 99), some (vR 0), some (vR 70), some (vR 98), some (vI (i : Int)), none, none] [] μ2 v2 (k + 1) (n + 10)) : LL L sc 356 [some (vR 99), some (vR 0), some (vR 70), some (vR 98), some (vI (i : Int)), none, none] [] μ v k n := by
  have e_1 : iA (i : Int) 1 = ((i + 1 : Nat) : Int) := by rw [iA, wI_id (by omega) (by omega)]; omega
  obtain ⟨w, μ1, b, μ2, t, μ3, hf, hg, hh, hI, ht, hrw, hrb, hbw⟩ := hst (sc (((i + 1 : Nat) : Int).toNat)) (hsc _) μ hI
  refine L_aload_n (q := 357) dL_law_356 rfl rfl rfl ?_
  refine L_aload_n (q := 358) dL_law_357 rfl rfl rfl ?_
  refine L_iload (q := 360) dL_law_358 rfl rfl ?_
  refine L_iconst (q := 361) dL_law_360 rfl rfl ?_
  refine L_iadd (q := 362) dL_law_361 rfl ?_
  rw [e_1]
  refine L_sld (q := 363) dL_law_362 (by omega) rfl ?_
  refine L_aload_n (q := 364) dL_law_363 rfl rfl rfl ?_
  have rest : ∀ (z : Int) (v2 : Int64), z = t → (z = 0 → v2 = Int64.ofInt b) → LL L sc 367 [some (vR 99), some (vR 0), some (vR 70), some (vR 98), some (vI (i : Int)), none, none] [vI z] μ1 v2 (k + 1) (n + 10) := by
    intro z v2 hz hzb
    refine L_istore (q := 369) dL_law_367 (by decide) trivial rfl ?_
    refine L_aload_n (q := 370) dL_law_369 rfl rfl rfl ?_
    refine L_aload_n (q := 371) dL_law_370 rfl rfl rfl ?_
    refine L_iload (q := 373) dL_law_371 rfl rfl ?_
    refine L_iconst (q := 374) dL_law_373 rfl rfl ?_
    refine L_iadd (q := 375) dL_law_374 rfl ?_
    rw [e_1]
    refine L_sld (q := 376) dL_law_375 (by omega) rfl ?_
    refine L_call (q := 379) (vI b) (kX11_crank 4 (by decide) hg) (by decide) mvL_42 (rfl : kD 70 = (11 + 10, 54)) rfl rfl rfl rfl rfl (by omega) dL_law_376 rfl ?_
    refine L_istore (q := 381) dL_law_379 (by decide) trivial rfl ?_
    refine L_aload_n (q := 382) dL_law_381 rfl rfl rfl ?_
    refine L_call (q := 385) (vI t) (kX11_thrown 1 (by decide) hh) (by decide) mvL_43 (rfl : kD 70 = (11 + 10, 54)) rfl rfl rfl rfl rfl (by omega) dL_law_382 rfl ?_
    refine L_iload (q := 387) dL_law_385 rfl rfl ?_
    refine L_icmpeq (q := 392) (q2 := 390) dL_law_387 (by decide) rfl (fun _ => ?_) (fun hne => absurd hz.symm hne)
    refine L_iload (q := 394) dL_law_392 rfl rfl ?_
    refine L_ifne (q := 409) (q2 := 397) dL_law_394 (by decide) rfl (fun h0 => ?_) (fun h0 => ?_)
    · refine L_goto (q := 1609) dL_law_409 (by decide) ?_
      exact L_weak (hgo _ _ hI) (sb_s rfl (sb_s rfl (sb_s rfl (sb_s rfl (sb_s rfl (sb_n (sb_n sb_0)))))))
    · refine L_aload_n (q := 398) dL_law_397 rfl rfl rfl ?_
      refine L_iconst (q := 399) dL_law_398 rfl rfl ?_
      refine L_laload (q := 400) dL_law_399 rfl ?_
      refine L_iload (q := 402) dL_law_400 rfl rfl ?_
      refine L_i2l (q := 403) dL_law_402 rfl ?_
      refine L_lcmp (q := 404) dL_law_403 rfl ?_
      refine L_ifeq (q := 409) (q2 := 407) dL_law_404 (by decide) rfl (fun _ => ?_) (fun hne => ?_)
      · refine L_goto (q := 1609) dL_law_409 (by decide) ?_
        exact L_weak (hgo _ _ hI) (sb_s rfl (sb_s rfl (sb_s rfl (sb_s rfl (sb_s rfl (sb_n (sb_n sb_0)))))))
      · refine absurd ?_ hne
        rw [hzb h0, rL_64 (rI_rL hrb)]
        unfold lC
        rw [if_neg (by omega), if_pos rfl]
  refine hCr L sc _ μ μ1 v k n _ w hf (by omega) (by omega) (fun v' hw => rest 1 v' (by rw [ht, if_pos hw]) (fun h => by omega)) (fun hw => rest 0 _ (by rw [ht, if_neg hw]) (fun _ => by rw [hbw hw]))

set_option maxHeartbeats 4000000 in
set_option maxRecDepth 100000 in
theorem law_loop (hCr : HCr) {L : Nat} {Inv : Nat → Mm → Prop} (hst : ∀ i, i + 6 ≤ L → sAll (Inv i) (Inv (i + 6))) {sc : Nat → Int} (hL : L ≤ 3072) (hsc : ∀ j, rI (sc j)) : ∀ (N i : Nat) (μ : Mm) (v : Int64) (k n : Nat), i ≤ L + 5 → L + 6 ≤ i + N → Inv i μ → k ≤ 200 + i → n ≤ 20000 + 10 * i → LL L sc 23 [some (vR 99), some (vR 0), some (vR 70), some (vR 98), some (vI (i : Int)), none, none] [] μ v k n := by
  intro N
  induction N with
  | zero => intro i μ v k n h1 h2; exact absurd h2 (by omega)
  | succ N ih =>
    intro i μ v k n h1 h2 hI hk hn
    refine L_iload (q := 25) dL_law_23 rfl rfl ?_
    refine L_aload_n (q := 26) dL_law_25 rfl rfl rfl ?_
    refine L_slen (q := 27) dL_law_26 rfl (by omega) ?_
    refine L_bipush (q := 29) dL_law_27 rfl rfl rfl ?_
    refine L_isub (q := 30) dL_law_29 rfl ?_
    rw [show iS (L : Int) 6 = (L : Int) - 6 from wI_id (by omega) (by omega)]
    refine L_icmpgt (q := 1615) (q2 := 33) dL_law_30 (by decide) rfl (fun hgt => ?_) (fun hgt => ?_)
    · exact L_end ⟨by omega, by omega⟩ dL_law_1615 dL_law_1616
    have hi : i + 6 ≤ L := by omega
    obtain ⟨h_no, hC, h_feed, h_end, h_fault, h_text, h_at, h_way, h_cue, h_set, h_wind, h_swap, h_knock, h_order, h_done, h_where, h_best, h_met, h_knot, h_age, h_first, h_post, h_rope, h_exchange, h_skip, h_nights, h_thud, h_fit, h_boy, h_out, h_walk, h_mend, h_slack, h_urgent, h_dead, h_pillar, h_image, h_back, h_count⟩ := hst i hi
    have hgo : ∀ μ2 v2, Inv (i + 6) μ2 → LL L sc 1609 [some (vR 99), some (vR 0), some (vR 70), some (vR 98), some (vI (i : Int)), none, none] [] μ2 v2 (k + 1) (n + 10) := by
      intro μ2 v2 hI2
      refine L_iinc (q := 1612) dL_law_1609 rfl (by decide) trivial rfl ?_
      refine L_goto (q := 23) dL_law_1612 (by decide) ?_
      have e6 : iA (i : Int) 6 = ((i + 6 : Nat) : Int) := by rw [iA, wI_id (by omega) (by omega)]; omega
      rw [e6]
      exact L_weak (ih (i + 6) μ2 v2 _ _ (by omega) (by omega) hI2 (by omega) (by omega)) (sb_s rfl (sb_s rfl (sb_s rfl (sb_s rfl (sb_s rfl (sb_n (sb_n sb_0)))))))
    have hgo1 : ∀ μ2, Inv (i + 6) μ2 → LL L sc 1609 [some (vR 99), some (vR 0), some (vR 70), some (vR 98), some (vI (i : Int)), none, none] [] μ2 v k n := fun μ2 h => LL_widen (by omega) (by omega) (hgo μ2 v h)
    have hk2 : k ≤ 500000 ∧ n ≤ 5000000 := ⟨by omega, by omega⟩
    refine L_aload_n (q := 34) dL_law_33 rfl rfl rfl ?_
    refine L_iload (q := 36) dL_law_34 rfl rfl ?_
    refine L_sld (q := 37) dL_law_36 (by omega) rfl ?_
    refine L_bipush (q := 39) dL_law_37 rfl rfl rfl ?_
    refine L_iand (q := 40) dL_law_39 rfl ?_
    refine L_ts1 (q := 208) 0 dL_law_40 rfl rfl rfl (by decide) (fun hc0 => ?_) (fun hc0 => ?_)
    · exact law_case_feed h_feed hL hi hsc hI hk2 hgo1
    refine L_ts1 (q := 281) 1 dL_law_40 rfl rfl rfl (by decide) (fun hc1 => ?_) (fun hc1 => ?_)
    · exact law_case_end h_end hL hi hsc hI hk2 hgo1
    refine L_ts1 (q := 306) 2 dL_law_40 rfl rfl rfl (by decide) (fun hc2 => ?_) (fun hc2 => ?_)
    · exact law_case_fault h_fault hL hi hsc hI hk2 hgo1
    refine L_ts1 (q := 331) 3 dL_law_40 rfl rfl rfl (by decide) (fun hc3 => ?_) (fun hc3 => ?_)
    · exact law_case_text h_text hL hi hsc hI hk2 hgo1
    refine L_ts1 (q := 356) 4 dL_law_40 rfl rfl rfl (by decide) (fun hc4 => ?_) (fun hc4 => ?_)
    · exact law_case_crank hCr hC hL hi hsc hI hk2 hgo
    refine L_ts1 (q := 412) 5 dL_law_40 rfl rfl rfl (by decide) (fun hc5 => ?_) (fun hc5 => ?_)
    · exact law_case_at h_at hL hi hsc hI hk2 hgo1
    refine L_ts1 (q := 437) 6 dL_law_40 rfl rfl rfl (by decide) (fun hc6 => ?_) (fun hc6 => ?_)
    · exact law_case_way h_way hL hi hsc hI hk2 hgo1
    refine L_ts1 (q := 474) 7 dL_law_40 rfl rfl rfl (by decide) (fun hc7 => ?_) (fun hc7 => ?_)
    · exact law_case_cue h_cue hL hi hsc hI hk2 hgo1
    refine L_ts1 (q := 523) 8 dL_law_40 rfl rfl rfl (by decide) (fun hc8 => ?_) (fun hc8 => ?_)
    · exact law_case_set h_set hL hi hsc hI hk2 hgo1
    refine L_ts1 (q := 560) 9 dL_law_40 rfl rfl rfl (by decide) (fun hc9 => ?_) (fun hc9 => ?_)
    · exact law_case_wind h_wind hL hi hsc hI hk2 hgo1
    refine L_ts1 (q := 597) 10 dL_law_40 rfl rfl rfl (by decide) (fun hc10 => ?_) (fun hc10 => ?_)
    · exact law_case_swap h_swap hL hi hsc hI hk2 hgo1
    refine L_ts1 (q := 634) 11 dL_law_40 rfl rfl rfl (by decide) (fun hc11 => ?_) (fun hc11 => ?_)
    · exact law_case_knock h_knock hL hi hsc hI hk2 hgo1
    refine L_ts1 (q := 659) 12 dL_law_40 rfl rfl rfl (by decide) (fun hc12 => ?_) (fun hc12 => ?_)
    · exact law_case_order h_order hL hi hsc hI hk2 hgo1
    refine L_ts1 (q := 708) 13 dL_law_40 rfl rfl rfl (by decide) (fun hc13 => ?_) (fun hc13 => ?_)
    · exact law_case_done h_done hL hi hsc hI hk2 hgo1
    refine L_ts1 (q := 769) 14 dL_law_40 rfl rfl rfl (by decide) (fun hc14 => ?_) (fun hc14 => ?_)
    · exact law_case_where h_where hL hi hsc hI hk2 hgo1
    refine L_ts1 (q := 818) 15 dL_law_40 rfl rfl rfl (by decide) (fun hc15 => ?_) (fun hc15 => ?_)
    · exact law_case_best h_best hL hi hsc hI hk2 hgo1
    refine L_ts1 (q := 867) 16 dL_law_40 rfl rfl rfl (by decide) (fun hc16 => ?_) (fun hc16 => ?_)
    · exact law_case_met h_met hL hi hsc hI hk2 hgo1
    refine L_ts1 (q := 904) 17 dL_law_40 rfl rfl rfl (by decide) (fun hc17 => ?_) (fun hc17 => ?_)
    · exact law_case_knot h_knot hL hi hsc hI hk2 hgo1
    refine L_ts1 (q := 929) 18 dL_law_40 rfl rfl rfl (by decide) (fun hc18 => ?_) (fun hc18 => ?_)
    · exact law_case_age h_age hL hi hsc hI hk2 hgo1
    refine L_ts1 (q := 954) 19 dL_law_40 rfl rfl rfl (by decide) (fun hc19 => ?_) (fun hc19 => ?_)
    · exact law_case_first h_first hL hi hsc hI hk2 hgo1
    refine L_ts1 (q := 967) 20 dL_law_40 rfl rfl rfl (by decide) (fun hc20 => ?_) (fun hc20 => ?_)
    · exact law_case_post h_post hL hi hsc hI hk2 hgo1
    refine L_ts1 (q := 1004) 21 dL_law_40 rfl rfl rfl (by decide) (fun hc21 => ?_) (fun hc21 => ?_)
    · exact law_case_rope h_rope hL hi hsc hI hk2 hgo1
    refine L_ts1 (q := 1041) 22 dL_law_40 rfl rfl rfl (by decide) (fun hc22 => ?_) (fun hc22 => ?_)
    · exact law_case_exchange h_exchange hL hi hsc hI hk2 hgo1
    refine L_ts1 (q := 1090) 23 dL_law_40 rfl rfl rfl (by decide) (fun hc23 => ?_) (fun hc23 => ?_)
    · exact law_case_skip h_skip hL hi hsc hI hk2 hgo1
    refine L_ts1 (q := 1139) 24 dL_law_40 rfl rfl rfl (by decide) (fun hc24 => ?_) (fun hc24 => ?_)
    · exact law_case_nights h_nights hL hi hsc hI hk2 hgo1
    refine L_ts1 (q := 1188) 25 dL_law_40 rfl rfl rfl (by decide) (fun hc25 => ?_) (fun hc25 => ?_)
    · exact law_case_thud h_thud hL hi hsc hI hk2 hgo1
    refine L_ts1 (q := 1225) 26 dL_law_40 rfl rfl rfl (by decide) (fun hc26 => ?_) (fun hc26 => ?_)
    · exact law_case_fit h_fit hL hi hsc hI hk2 hgo1
    refine L_ts1 (q := 1262) 27 dL_law_40 rfl rfl rfl (by decide) (fun hc27 => ?_) (fun hc27 => ?_)
    · exact law_case_boy h_boy hL hi hsc hI hk2 hgo1
    refine L_ts1 (q := 1323) 28 dL_law_40 rfl rfl rfl (by decide) (fun hc28 => ?_) (fun hc28 => ?_)
    · exact law_case_out h_out hL hi hsc hI hk2 hgo1
    refine L_ts1 (q := 1348) 29 dL_law_40 rfl rfl rfl (by decide) (fun hc29 => ?_) (fun hc29 => ?_)
    · exact law_case_walk h_walk hL hi hsc hI hk2 hgo1
    refine L_ts1 (q := 1397) 30 dL_law_40 rfl rfl rfl (by decide) (fun hc30 => ?_) (fun hc30 => ?_)
    · exact law_case_mend h_mend hL hi hsc hI hk2 hgo1
    refine L_ts1 (q := 1446) 31 dL_law_40 rfl rfl rfl (by decide) (fun hc31 => ?_) (fun hc31 => ?_)
    · exact law_case_slack h_slack hL hi hsc hI hk2 hgo1
    refine L_ts1 (q := 1483) 32 dL_law_40 rfl rfl rfl (by decide) (fun hc32 => ?_) (fun hc32 => ?_)
    · exact law_case_urgent h_urgent hL hi hsc hI hk2 hgo1
    refine L_ts1 (q := 1508) 33 dL_law_40 rfl rfl rfl (by decide) (fun hc33 => ?_) (fun hc33 => ?_)
    · exact law_case_dead h_dead hL hi hsc hI hk2 hgo1
    refine L_ts1 (q := 1521) 34 dL_law_40 rfl rfl rfl (by decide) (fun hc34 => ?_) (fun hc34 => ?_)
    · exact law_case_pillar h_pillar hL hi hsc hI hk2 hgo1
    refine L_ts1 (q := 1558) 35 dL_law_40 rfl rfl rfl (by decide) (fun hc35 => ?_) (fun hc35 => ?_)
    · exact law_case_image h_image hL hi hsc hI hk2 hgo1
    refine L_ts1 (q := 1571) 36 dL_law_40 rfl rfl rfl (by decide) (fun hc36 => ?_) (fun hc36 => ?_)
    · exact law_case_back h_back hL hi hsc hI hk2 hgo1
    refine L_ts1 (q := 1584) 37 dL_law_40 rfl rfl rfl (by decide) (fun hc37 => ?_) (fun hc37 => ?_)
    · exact law_case_count h_count hL hi hsc hI hk2 hgo1
    refine L_tsOut (q := 1609) dL_law_40 (by omega) (by decide) ?_
    exact hgo1 μ (h_no μ hI)

