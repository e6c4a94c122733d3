/-! the law: its own frame -/
theorem d242_0 : decode (xB 242) 0 = .ok (.new 8, 3) := by decide +kernel
theorem d242_3 : decode (xB 242) 3 = .ok (.dup, 1) := by decide +kernel
theorem d242_4 : decode (xB 242) 4 = .ok (.invokespecial 25, 3) := by decide +kernel
theorem d242_7 : decode (xB 242) 7 = .ok (.astore_n 1, 1) := by decide +kernel
theorem d242_8 : decode (xB 242) 8 = .ok (.new 26, 3) := by decide +kernel
theorem d242_11 : decode (xB 242) 11 = .ok (.dup, 1) := by decide +kernel
theorem d242_12 : decode (xB 242) 12 = .ok (.invokespecial 28, 3) := by decide +kernel
theorem d242_15 : decode (xB 242) 15 = .ok (.astore_n 2, 1) := by decide +kernel
theorem d242_16 : decode (xB 242) 16 = .ok (.iconst 1, 1) := by decide +kernel
theorem d242_17 : decode (xB 242) 17 = .ok (.newarray .long, 2) := by decide +kernel
theorem d242_19 : decode (xB 242) 19 = .ok (.astore_n 3, 1) := by decide +kernel
theorem d242_20 : decode (xB 242) 20 = .ok (.iconst 0, 1) := by decide +kernel
theorem d242_21 : decode (xB 242) 21 = .ok (.istore 4, 2) := by decide +kernel
theorem d242_23 : decode (xB 242) 23 = .ok (.iload 4, 2) := by decide +kernel
theorem d242_25 : decode (xB 242) 25 = .ok (.aload_n 0, 1) := by decide +kernel
theorem d242_26 : decode (xB 242) 26 = .ok (.arraylength, 1) := by decide +kernel
theorem d242_27 : decode (xB 242) 27 = .ok (.iconst 5, 1) := by decide +kernel
theorem d242_28 : decode (xB 242) 28 = .ok (.isub, 1) := by decide +kernel
theorem d242_29 : decode (xB 242) 29 = .ok (.if_icmp .gt 1572, 3) := by decide +kernel
theorem d242_32 : decode (xB 242) 32 = .ok (.aload_n 0, 1) := by decide +kernel
theorem d242_33 : decode (xB 242) 33 = .ok (.iload 4, 2) := by decide +kernel
theorem d242_35 : decode (xB 242) 35 = .ok (.iaload, 1) := by decide +kernel
theorem d242_36 : decode (xB 242) 36 = .ok (.bipush 63, 2) := by decide +kernel
theorem d242_38 : decode (xB 242) 38 = .ok (.iand, 1) := by decide +kernel
theorem d242_39 : decode (xB 242) 39 = .ok (.tableswitch 1556 0 42 #[185, 210, 235, 248, 273, 298, 366, 403, 456, 517, 542, 555, 580, 605, 630, 643, 711, 748, 785, 798, 847, 860, 873, 910, 959, 996, 1045, 1082, 1107, 1144, 1169, 1194, 1219, 1244, 1281, 1294, 1319, 1344, 1412, 1425, 1450, 1475, 1500], 185) := by decide +kernel
theorem d242_224 : decode (xB 242) 224 = .ok (.aload_n 1, 1) := by decide +kernel
theorem d242_225 : decode (xB 242) 225 = .ok (.aload_n 0, 1) := by decide +kernel
theorem d242_226 : decode (xB 242) 226 = .ok (.iload 4, 2) := by decide +kernel
theorem d242_228 : decode (xB 242) 228 = .ok (.iconst 1, 1) := by decide +kernel
theorem d242_229 : decode (xB 242) 229 = .ok (.iadd, 1) := by decide +kernel
theorem d242_230 : decode (xB 242) 230 = .ok (.iaload, 1) := by decide +kernel
theorem d242_231 : decode (xB 242) 231 = .ok (.invokevirtual 29, 3) := by decide +kernel
theorem d242_234 : decode (xB 242) 234 = .ok (.aload_n 2, 1) := by decide +kernel
theorem d242_235 : decode (xB 242) 235 = .ok (.aload_n 0, 1) := by decide +kernel
theorem d242_236 : decode (xB 242) 236 = .ok (.iload 4, 2) := by decide +kernel
theorem d242_238 : decode (xB 242) 238 = .ok (.iconst 1, 1) := by decide +kernel
theorem d242_239 : decode (xB 242) 239 = .ok (.iadd, 1) := by decide +kernel
theorem d242_240 : decode (xB 242) 240 = .ok (.iaload, 1) := by decide +kernel
theorem d242_241 : decode (xB 242) 241 = .ok (.invokevirtual 32, 3) := by decide +kernel
theorem d242_244 : decode (xB 242) 244 = .ok (.if_icmp .eq 1351, 3) := by decide +kernel
theorem d242_247 : decode (xB 242) 247 = .ok (.iconst 0, 1) := by decide +kernel
theorem d242_248 : decode (xB 242) 248 = .ok (.ireturn, 1) := by decide +kernel
theorem d242_249 : decode (xB 242) 249 = .ok (.aload_n 1, 1) := by decide +kernel
theorem d242_250 : decode (xB 242) 250 = .ok (.aload_n 0, 1) := by decide +kernel
theorem d242_251 : decode (xB 242) 251 = .ok (.iload 4, 2) := by decide +kernel
theorem d242_253 : decode (xB 242) 253 = .ok (.iconst 1, 1) := by decide +kernel
theorem d242_254 : decode (xB 242) 254 = .ok (.iadd, 1) := by decide +kernel
theorem d242_255 : decode (xB 242) 255 = .ok (.iaload, 1) := by decide +kernel
theorem d242_256 : decode (xB 242) 256 = .ok (.invokevirtual 33, 3) := by decide +kernel
theorem d242_259 : decode (xB 242) 259 = .ok (.aload_n 2, 1) := by decide +kernel
theorem d242_260 : decode (xB 242) 260 = .ok (.aload_n 0, 1) := by decide +kernel
theorem d242_261 : decode (xB 242) 261 = .ok (.iload 4, 2) := by decide +kernel
theorem d242_263 : decode (xB 242) 263 = .ok (.iconst 1, 1) := by decide +kernel
theorem d242_264 : decode (xB 242) 264 = .ok (.iadd, 1) := by decide +kernel
theorem d242_265 : decode (xB 242) 265 = .ok (.iaload, 1) := by decide +kernel
theorem d242_266 : decode (xB 242) 266 = .ok (.invokevirtual 37, 3) := by decide +kernel
theorem d242_269 : decode (xB 242) 269 = .ok (.if_icmp .eq 1326, 3) := by decide +kernel
theorem d242_272 : decode (xB 242) 272 = .ok (.iconst 0, 1) := by decide +kernel
theorem d242_273 : decode (xB 242) 273 = .ok (.ireturn, 1) := by decide +kernel
theorem d242_274 : decode (xB 242) 274 = .ok (.aload_n 1, 1) := by decide +kernel
theorem d242_275 : decode (xB 242) 275 = .ok (.invokevirtual 38, 3) := by decide +kernel
theorem d242_278 : decode (xB 242) 278 = .ok (.aload_n 2, 1) := by decide +kernel
theorem d242_279 : decode (xB 242) 279 = .ok (.invokevirtual 42, 3) := by decide +kernel
theorem d242_282 : decode (xB 242) 282 = .ok (.if_icmp .eq 1313, 3) := by decide +kernel
theorem d242_285 : decode (xB 242) 285 = .ok (.iconst 0, 1) := by decide +kernel
theorem d242_286 : decode (xB 242) 286 = .ok (.ireturn, 1) := by decide +kernel
theorem d242_287 : decode (xB 242) 287 = .ok (.aload_n 1, 1) := by decide +kernel
theorem d242_288 : decode (xB 242) 288 = .ok (.aload_n 0, 1) := by decide +kernel
theorem d242_289 : decode (xB 242) 289 = .ok (.iload 4, 2) := by decide +kernel
theorem d242_291 : decode (xB 242) 291 = .ok (.iconst 1, 1) := by decide +kernel
theorem d242_292 : decode (xB 242) 292 = .ok (.iadd, 1) := by decide +kernel
theorem d242_293 : decode (xB 242) 293 = .ok (.iaload, 1) := by decide +kernel
theorem d242_294 : decode (xB 242) 294 = .ok (.invokevirtual 43, 3) := by decide +kernel
theorem d242_297 : decode (xB 242) 297 = .ok (.aload_n 2, 1) := by decide +kernel
theorem d242_298 : decode (xB 242) 298 = .ok (.aload_n 0, 1) := by decide +kernel
theorem d242_299 : decode (xB 242) 299 = .ok (.iload 4, 2) := by decide +kernel
theorem d242_301 : decode (xB 242) 301 = .ok (.iconst 1, 1) := by decide +kernel
theorem d242_302 : decode (xB 242) 302 = .ok (.iadd, 1) := by decide +kernel
theorem d242_303 : decode (xB 242) 303 = .ok (.iaload, 1) := by decide +kernel
theorem d242_304 : decode (xB 242) 304 = .ok (.invokevirtual 46, 3) := by decide +kernel
theorem d242_307 : decode (xB 242) 307 = .ok (.if_icmp .eq 1288, 3) := by decide +kernel
theorem d242_310 : decode (xB 242) 310 = .ok (.iconst 0, 1) := by decide +kernel
theorem d242_311 : decode (xB 242) 311 = .ok (.ireturn, 1) := by decide +kernel
theorem d242_312 : decode (xB 242) 312 = .ok (.aload_n 1, 1) := by decide +kernel
theorem d242_313 : decode (xB 242) 313 = .ok (.aload_n 0, 1) := by decide +kernel
theorem d242_314 : decode (xB 242) 314 = .ok (.iload 4, 2) := by decide +kernel
theorem d242_316 : decode (xB 242) 316 = .ok (.iconst 1, 1) := by decide +kernel
theorem d242_317 : decode (xB 242) 317 = .ok (.iadd, 1) := by decide +kernel
theorem d242_318 : decode (xB 242) 318 = .ok (.iaload, 1) := by decide +kernel
theorem d242_319 : decode (xB 242) 319 = .ok (.invokevirtual 47, 3) := by decide +kernel
theorem d242_322 : decode (xB 242) 322 = .ok (.aload_n 2, 1) := by decide +kernel
theorem d242_323 : decode (xB 242) 323 = .ok (.aload_n 0, 1) := by decide +kernel
theorem d242_324 : decode (xB 242) 324 = .ok (.iload 4, 2) := by decide +kernel
theorem d242_326 : decode (xB 242) 326 = .ok (.iconst 1, 1) := by decide +kernel
theorem d242_327 : decode (xB 242) 327 = .ok (.iadd, 1) := by decide +kernel
theorem d242_328 : decode (xB 242) 328 = .ok (.iaload, 1) := by decide +kernel
theorem d242_329 : decode (xB 242) 329 = .ok (.invokevirtual 50, 3) := by decide +kernel
theorem d242_332 : decode (xB 242) 332 = .ok (.if_icmp .eq 1263, 3) := by decide +kernel
theorem d242_335 : decode (xB 242) 335 = .ok (.iconst 0, 1) := by decide +kernel
theorem d242_336 : decode (xB 242) 336 = .ok (.ireturn, 1) := by decide +kernel
theorem d242_337 : decode (xB 242) 337 = .ok (.aload_n 1, 1) := by decide +kernel
theorem d242_338 : decode (xB 242) 338 = .ok (.aload_n 0, 1) := by decide +kernel
theorem d242_339 : decode (xB 242) 339 = .ok (.iload 4, 2) := by decide +kernel
theorem d242_341 : decode (xB 242) 341 = .ok (.iconst 1, 1) := by decide +kernel
theorem d242_342 : decode (xB 242) 342 = .ok (.iadd, 1) := by decide +kernel
theorem d242_343 : decode (xB 242) 343 = .ok (.iaload, 1) := by decide +kernel
theorem d242_344 : decode (xB 242) 344 = .ok (.aload_n 0, 1) := by decide +kernel
theorem d242_345 : decode (xB 242) 345 = .ok (.iload 4, 2) := by decide +kernel
theorem d242_347 : decode (xB 242) 347 = .ok (.iconst 2, 1) := by decide +kernel
theorem d242_348 : decode (xB 242) 348 = .ok (.iadd, 1) := by decide +kernel
theorem d242_349 : decode (xB 242) 349 = .ok (.iaload, 1) := by decide +kernel
theorem d242_350 : decode (xB 242) 350 = .ok (.aload_n 3, 1) := by decide +kernel
theorem d242_351 : decode (xB 242) 351 = .ok (.invokestatic 51, 3) := by decide +kernel
theorem d242_354 : decode (xB 242) 354 = .ok (.istore 5, 2) := by decide +kernel
theorem d242_356 : decode (xB 242) 356 = .ok (.aload_n 2, 1) := by decide +kernel
theorem d242_357 : decode (xB 242) 357 = .ok (.aload_n 0, 1) := by decide +kernel
theorem d242_358 : decode (xB 242) 358 = .ok (.iload 4, 2) := by decide +kernel
theorem d242_360 : decode (xB 242) 360 = .ok (.iconst 1, 1) := by decide +kernel
theorem d242_361 : decode (xB 242) 361 = .ok (.iadd, 1) := by decide +kernel
theorem d242_362 : decode (xB 242) 362 = .ok (.iaload, 1) := by decide +kernel
theorem d242_363 : decode (xB 242) 363 = .ok (.aload_n 0, 1) := by decide +kernel
theorem d242_364 : decode (xB 242) 364 = .ok (.iload 4, 2) := by decide +kernel
theorem d242_366 : decode (xB 242) 366 = .ok (.iconst 2, 1) := by decide +kernel
theorem d242_367 : decode (xB 242) 367 = .ok (.iadd, 1) := by decide +kernel
theorem d242_368 : decode (xB 242) 368 = .ok (.iaload, 1) := by decide +kernel
theorem d242_369 : decode (xB 242) 369 = .ok (.invokevirtual 56, 3) := by decide +kernel
theorem d242_372 : decode (xB 242) 372 = .ok (.istore 6, 2) := by decide +kernel
theorem d242_374 : decode (xB 242) 374 = .ok (.aload_n 2, 1) := by decide +kernel
theorem d242_375 : decode (xB 242) 375 = .ok (.invokevirtual 57, 3) := by decide +kernel
theorem d242_378 : decode (xB 242) 378 = .ok (.iload 5, 2) := by decide +kernel
theorem d242_380 : decode (xB 242) 380 = .ok (.if_icmp .eq 5, 3) := by decide +kernel
theorem d242_383 : decode (xB 242) 383 = .ok (.iconst 0, 1) := by decide +kernel
theorem d242_384 : decode (xB 242) 384 = .ok (.ireturn, 1) := by decide +kernel
theorem d242_385 : decode (xB 242) 385 = .ok (.iload 5, 2) := by decide +kernel
theorem d242_387 : decode (xB 242) 387 = .ok (.ifCond .ne 15, 3) := by decide +kernel
theorem d242_390 : decode (xB 242) 390 = .ok (.aload_n 3, 1) := by decide +kernel
theorem d242_391 : decode (xB 242) 391 = .ok (.iconst 0, 1) := by decide +kernel
theorem d242_392 : decode (xB 242) 392 = .ok (.laload, 1) := by decide +kernel
theorem d242_393 : decode (xB 242) 393 = .ok (.iload 6, 2) := by decide +kernel
theorem d242_395 : decode (xB 242) 395 = .ok (.i2l, 1) := by decide +kernel
theorem d242_396 : decode (xB 242) 396 = .ok (.lcmp, 1) := by decide +kernel
theorem d242_397 : decode (xB 242) 397 = .ok (.ifCond .eq 5, 3) := by decide +kernel
theorem d242_400 : decode (xB 242) 400 = .ok (.iconst 0, 1) := by decide +kernel
theorem d242_401 : decode (xB 242) 401 = .ok (.ireturn, 1) := by decide +kernel
theorem d242_402 : decode (xB 242) 402 = .ok (.goto 1193, 3) := by decide +kernel
theorem d242_405 : decode (xB 242) 405 = .ok (.aload_n 1, 1) := by decide +kernel
theorem d242_406 : decode (xB 242) 406 = .ok (.aload_n 0, 1) := by decide +kernel
theorem d242_407 : decode (xB 242) 407 = .ok (.iload 4, 2) := by decide +kernel
theorem d242_409 : decode (xB 242) 409 = .ok (.iconst 1, 1) := by decide +kernel
theorem d242_410 : decode (xB 242) 410 = .ok (.iadd, 1) := by decide +kernel
theorem d242_411 : decode (xB 242) 411 = .ok (.iaload, 1) := by decide +kernel
theorem d242_412 : decode (xB 242) 412 = .ok (.aload_n 0, 1) := by decide +kernel
theorem d242_413 : decode (xB 242) 413 = .ok (.iload 4, 2) := by decide +kernel
theorem d242_415 : decode (xB 242) 415 = .ok (.iconst 2, 1) := by decide +kernel
theorem d242_416 : decode (xB 242) 416 = .ok (.iadd, 1) := by decide +kernel
theorem d242_417 : decode (xB 242) 417 = .ok (.iaload, 1) := by decide +kernel
theorem d242_418 : decode (xB 242) 418 = .ok (.invokevirtual 60, 3) := by decide +kernel
theorem d242_421 : decode (xB 242) 421 = .ok (.aload_n 2, 1) := by decide +kernel
theorem d242_422 : decode (xB 242) 422 = .ok (.aload_n 0, 1) := by decide +kernel
theorem d242_423 : decode (xB 242) 423 = .ok (.iload 4, 2) := by decide +kernel
theorem d242_425 : decode (xB 242) 425 = .ok (.iconst 1, 1) := by decide +kernel
theorem d242_426 : decode (xB 242) 426 = .ok (.iadd, 1) := by decide +kernel
theorem d242_427 : decode (xB 242) 427 = .ok (.iaload, 1) := by decide +kernel
theorem d242_428 : decode (xB 242) 428 = .ok (.aload_n 0, 1) := by decide +kernel
theorem d242_429 : decode (xB 242) 429 = .ok (.iload 4, 2) := by decide +kernel
theorem d242_431 : decode (xB 242) 431 = .ok (.iconst 2, 1) := by decide +kernel
theorem d242_432 : decode (xB 242) 432 = .ok (.iadd, 1) := by decide +kernel
theorem d242_433 : decode (xB 242) 433 = .ok (.iaload, 1) := by decide +kernel
theorem d242_434 : decode (xB 242) 434 = .ok (.invokevirtual 63, 3) := by decide +kernel
theorem d242_437 : decode (xB 242) 437 = .ok (.if_icmp .eq 1158, 3) := by decide +kernel
theorem d242_440 : decode (xB 242) 440 = .ok (.iconst 0, 1) := by decide +kernel
theorem d242_441 : decode (xB 242) 441 = .ok (.ireturn, 1) := by decide +kernel
theorem d242_442 : decode (xB 242) 442 = .ok (.aload_n 1, 1) := by decide +kernel
theorem d242_443 : decode (xB 242) 443 = .ok (.aload_n 0, 1) := by decide +kernel
theorem d242_444 : decode (xB 242) 444 = .ok (.iload 4, 2) := by decide +kernel
theorem d242_446 : decode (xB 242) 446 = .ok (.iconst 1, 1) := by decide +kernel
theorem d242_447 : decode (xB 242) 447 = .ok (.iadd, 1) := by decide +kernel
theorem d242_448 : decode (xB 242) 448 = .ok (.iaload, 1) := by decide +kernel
theorem d242_449 : decode (xB 242) 449 = .ok (.aload_n 0, 1) := by decide +kernel
theorem d242_450 : decode (xB 242) 450 = .ok (.iload 4, 2) := by decide +kernel
theorem d242_452 : decode (xB 242) 452 = .ok (.iconst 2, 1) := by decide +kernel
theorem d242_453 : decode (xB 242) 453 = .ok (.iadd, 1) := by decide +kernel
theorem d242_454 : decode (xB 242) 454 = .ok (.iaload, 1) := by decide +kernel
theorem d242_455 : decode (xB 242) 455 = .ok (.ifCond .eq 7, 3) := by decide +kernel
theorem d242_458 : decode (xB 242) 458 = .ok (.iconst 1, 1) := by decide +kernel
theorem d242_459 : decode (xB 242) 459 = .ok (.goto 4, 3) := by decide +kernel
theorem d242_462 : decode (xB 242) 462 = .ok (.iconst 0, 1) := by decide +kernel
theorem d242_463 : decode (xB 242) 463 = .ok (.invokevirtual 64, 3) := by decide +kernel
theorem d242_466 : decode (xB 242) 466 = .ok (.aload_n 2, 1) := by decide +kernel
theorem d242_467 : decode (xB 242) 467 = .ok (.aload_n 0, 1) := by decide +kernel
theorem d242_468 : decode (xB 242) 468 = .ok (.iload 4, 2) := by decide +kernel
theorem d242_470 : decode (xB 242) 470 = .ok (.iconst 1, 1) := by decide +kernel
theorem d242_471 : decode (xB 242) 471 = .ok (.iadd, 1) := by decide +kernel
theorem d242_472 : decode (xB 242) 472 = .ok (.iaload, 1) := by decide +kernel
theorem d242_473 : decode (xB 242) 473 = .ok (.aload_n 0, 1) := by decide +kernel
theorem d242_474 : decode (xB 242) 474 = .ok (.iload 4, 2) := by decide +kernel
theorem d242_476 : decode (xB 242) 476 = .ok (.iconst 2, 1) := by decide +kernel
theorem d242_477 : decode (xB 242) 477 = .ok (.iadd, 1) := by decide +kernel
theorem d242_478 : decode (xB 242) 478 = .ok (.iaload, 1) := by decide +kernel
theorem d242_479 : decode (xB 242) 479 = .ok (.ifCond .eq 7, 3) := by decide +kernel
theorem d242_482 : decode (xB 242) 482 = .ok (.iconst 1, 1) := by decide +kernel
theorem d242_483 : decode (xB 242) 483 = .ok (.goto 4, 3) := by decide +kernel
theorem d242_486 : decode (xB 242) 486 = .ok (.iconst 0, 1) := by decide +kernel
theorem d242_487 : decode (xB 242) 487 = .ok (.invokevirtual 68, 3) := by decide +kernel
theorem d242_490 : decode (xB 242) 490 = .ok (.if_icmp .eq 1105, 3) := by decide +kernel
theorem d242_493 : decode (xB 242) 493 = .ok (.iconst 0, 1) := by decide +kernel
theorem d242_494 : decode (xB 242) 494 = .ok (.ireturn, 1) := by decide +kernel
theorem d242_495 : decode (xB 242) 495 = .ok (.aload_n 1, 1) := by decide +kernel
theorem d242_496 : decode (xB 242) 496 = .ok (.aload_n 0, 1) := by decide +kernel
theorem d242_497 : decode (xB 242) 497 = .ok (.iload 4, 2) := by decide +kernel
theorem d242_499 : decode (xB 242) 499 = .ok (.iconst 1, 1) := by decide +kernel
theorem d242_500 : decode (xB 242) 500 = .ok (.iadd, 1) := by decide +kernel
theorem d242_501 : decode (xB 242) 501 = .ok (.iaload, 1) := by decide +kernel
theorem d242_502 : decode (xB 242) 502 = .ok (.aload_n 0, 1) := by decide +kernel
theorem d242_503 : decode (xB 242) 503 = .ok (.iload 4, 2) := by decide +kernel
theorem d242_505 : decode (xB 242) 505 = .ok (.iconst 2, 1) := by decide +kernel
theorem d242_506 : decode (xB 242) 506 = .ok (.iadd, 1) := by decide +kernel
theorem d242_507 : decode (xB 242) 507 = .ok (.iaload, 1) := by decide +kernel
theorem d242_508 : decode (xB 242) 508 = .ok (.aload_n 0, 1) := by decide +kernel
theorem d242_509 : decode (xB 242) 509 = .ok (.iload 4, 2) := by decide +kernel
theorem d242_511 : decode (xB 242) 511 = .ok (.iconst 3, 1) := by decide +kernel
theorem d242_512 : decode (xB 242) 512 = .ok (.iadd, 1) := by decide +kernel
theorem d242_513 : decode (xB 242) 513 = .ok (.iaload, 1) := by decide +kernel
theorem d242_514 : decode (xB 242) 514 = .ok (.aload_n 0, 1) := by decide +kernel
theorem d242_515 : decode (xB 242) 515 = .ok (.iload 4, 2) := by decide +kernel
theorem d242_517 : decode (xB 242) 517 = .ok (.iconst 4, 1) := by decide +kernel
theorem d242_518 : decode (xB 242) 518 = .ok (.iadd, 1) := by decide +kernel
theorem d242_519 : decode (xB 242) 519 = .ok (.iaload, 1) := by decide +kernel
theorem d242_520 : decode (xB 242) 520 = .ok (.invokevirtual 69, 3) := by decide +kernel
theorem d242_523 : decode (xB 242) 523 = .ok (.aload_n 2, 1) := by decide +kernel
theorem d242_524 : decode (xB 242) 524 = .ok (.aload_n 0, 1) := by decide +kernel
theorem d242_525 : decode (xB 242) 525 = .ok (.iload 4, 2) := by decide +kernel
theorem d242_527 : decode (xB 242) 527 = .ok (.iconst 1, 1) := by decide +kernel
theorem d242_528 : decode (xB 242) 528 = .ok (.iadd, 1) := by decide +kernel
theorem d242_529 : decode (xB 242) 529 = .ok (.iaload, 1) := by decide +kernel
theorem d242_530 : decode (xB 242) 530 = .ok (.aload_n 0, 1) := by decide +kernel
theorem d242_531 : decode (xB 242) 531 = .ok (.iload 4, 2) := by decide +kernel
theorem d242_533 : decode (xB 242) 533 = .ok (.iconst 2, 1) := by decide +kernel
theorem d242_534 : decode (xB 242) 534 = .ok (.iadd, 1) := by decide +kernel
theorem d242_535 : decode (xB 242) 535 = .ok (.iaload, 1) := by decide +kernel
theorem d242_536 : decode (xB 242) 536 = .ok (.aload_n 0, 1) := by decide +kernel
theorem d242_537 : decode (xB 242) 537 = .ok (.iload 4, 2) := by decide +kernel
theorem d242_539 : decode (xB 242) 539 = .ok (.iconst 3, 1) := by decide +kernel
theorem d242_540 : decode (xB 242) 540 = .ok (.iadd, 1) := by decide +kernel
theorem d242_541 : decode (xB 242) 541 = .ok (.iaload, 1) := by decide +kernel
theorem d242_542 : decode (xB 242) 542 = .ok (.aload_n 0, 1) := by decide +kernel
theorem d242_543 : decode (xB 242) 543 = .ok (.iload 4, 2) := by decide +kernel
theorem d242_545 : decode (xB 242) 545 = .ok (.iconst 4, 1) := by decide +kernel
theorem d242_546 : decode (xB 242) 546 = .ok (.iadd, 1) := by decide +kernel
theorem d242_547 : decode (xB 242) 547 = .ok (.iaload, 1) := by decide +kernel
theorem d242_548 : decode (xB 242) 548 = .ok (.invokevirtual 73, 3) := by decide +kernel
theorem d242_551 : decode (xB 242) 551 = .ok (.if_icmp .eq 1044, 3) := by decide +kernel
theorem d242_554 : decode (xB 242) 554 = .ok (.iconst 0, 1) := by decide +kernel
theorem d242_555 : decode (xB 242) 555 = .ok (.ireturn, 1) := by decide +kernel
theorem d242_556 : decode (xB 242) 556 = .ok (.aload_n 1, 1) := by decide +kernel
theorem d242_557 : decode (xB 242) 557 = .ok (.aload_n 0, 1) := by decide +kernel
theorem d242_558 : decode (xB 242) 558 = .ok (.iload 4, 2) := by decide +kernel
theorem d242_560 : decode (xB 242) 560 = .ok (.iconst 1, 1) := by decide +kernel
theorem d242_561 : decode (xB 242) 561 = .ok (.iadd, 1) := by decide +kernel
theorem d242_562 : decode (xB 242) 562 = .ok (.iaload, 1) := by decide +kernel
theorem d242_563 : decode (xB 242) 563 = .ok (.invokevirtual 74, 3) := by decide +kernel
theorem d242_566 : decode (xB 242) 566 = .ok (.aload_n 2, 1) := by decide +kernel
theorem d242_567 : decode (xB 242) 567 = .ok (.aload_n 0, 1) := by decide +kernel
theorem d242_568 : decode (xB 242) 568 = .ok (.iload 4, 2) := by decide +kernel
theorem d242_570 : decode (xB 242) 570 = .ok (.iconst 1, 1) := by decide +kernel
theorem d242_571 : decode (xB 242) 571 = .ok (.iadd, 1) := by decide +kernel
theorem d242_572 : decode (xB 242) 572 = .ok (.iaload, 1) := by decide +kernel
theorem d242_573 : decode (xB 242) 573 = .ok (.invokevirtual 77, 3) := by decide +kernel
theorem d242_576 : decode (xB 242) 576 = .ok (.if_icmp .eq 1019, 3) := by decide +kernel
theorem d242_579 : decode (xB 242) 579 = .ok (.iconst 0, 1) := by decide +kernel
theorem d242_580 : decode (xB 242) 580 = .ok (.ireturn, 1) := by decide +kernel
theorem d242_581 : decode (xB 242) 581 = .ok (.aload_n 1, 1) := by decide +kernel
theorem d242_582 : decode (xB 242) 582 = .ok (.invokevirtual 78, 3) := by decide +kernel
theorem d242_585 : decode (xB 242) 585 = .ok (.aload_n 2, 1) := by decide +kernel
theorem d242_586 : decode (xB 242) 586 = .ok (.invokevirtual 81, 3) := by decide +kernel
theorem d242_589 : decode (xB 242) 589 = .ok (.if_icmp .eq 1006, 3) := by decide +kernel
theorem d242_592 : decode (xB 242) 592 = .ok (.iconst 0, 1) := by decide +kernel
theorem d242_593 : decode (xB 242) 593 = .ok (.ireturn, 1) := by decide +kernel
theorem d242_594 : decode (xB 242) 594 = .ok (.aload_n 1, 1) := by decide +kernel
theorem d242_595 : decode (xB 242) 595 = .ok (.aload_n 0, 1) := by decide +kernel
theorem d242_596 : decode (xB 242) 596 = .ok (.iload 4, 2) := by decide +kernel
theorem d242_598 : decode (xB 242) 598 = .ok (.iconst 1, 1) := by decide +kernel
theorem d242_599 : decode (xB 242) 599 = .ok (.iadd, 1) := by decide +kernel
theorem d242_600 : decode (xB 242) 600 = .ok (.iaload, 1) := by decide +kernel
theorem d242_601 : decode (xB 242) 601 = .ok (.invokevirtual 82, 3) := by decide +kernel
theorem d242_604 : decode (xB 242) 604 = .ok (.aload_n 2, 1) := by decide +kernel
theorem d242_605 : decode (xB 242) 605 = .ok (.aload_n 0, 1) := by decide +kernel
theorem d242_606 : decode (xB 242) 606 = .ok (.iload 4, 2) := by decide +kernel
theorem d242_608 : decode (xB 242) 608 = .ok (.iconst 1, 1) := by decide +kernel
theorem d242_609 : decode (xB 242) 609 = .ok (.iadd, 1) := by decide +kernel
theorem d242_610 : decode (xB 242) 610 = .ok (.iaload, 1) := by decide +kernel
theorem d242_611 : decode (xB 242) 611 = .ok (.invokevirtual 85, 3) := by decide +kernel
theorem d242_614 : decode (xB 242) 614 = .ok (.if_icmp .eq 981, 3) := by decide +kernel
theorem d242_617 : decode (xB 242) 617 = .ok (.iconst 0, 1) := by decide +kernel
theorem d242_618 : decode (xB 242) 618 = .ok (.ireturn, 1) := by decide +kernel
theorem d242_619 : decode (xB 242) 619 = .ok (.aload_n 1, 1) := by decide +kernel
theorem d242_620 : decode (xB 242) 620 = .ok (.aload_n 0, 1) := by decide +kernel
theorem d242_621 : decode (xB 242) 621 = .ok (.iload 4, 2) := by decide +kernel
theorem d242_623 : decode (xB 242) 623 = .ok (.iconst 1, 1) := by decide +kernel
theorem d242_624 : decode (xB 242) 624 = .ok (.iadd, 1) := by decide +kernel
theorem d242_625 : decode (xB 242) 625 = .ok (.iaload, 1) := by decide +kernel
theorem d242_626 : decode (xB 242) 626 = .ok (.invokevirtual 86, 3) := by decide +kernel
theorem d242_629 : decode (xB 242) 629 = .ok (.aload_n 2, 1) := by decide +kernel
theorem d242_630 : decode (xB 242) 630 = .ok (.aload_n 0, 1) := by decide +kernel
theorem d242_631 : decode (xB 242) 631 = .ok (.iload 4, 2) := by decide +kernel
theorem d242_633 : decode (xB 242) 633 = .ok (.iconst 1, 1) := by decide +kernel
theorem d242_634 : decode (xB 242) 634 = .ok (.iadd, 1) := by decide +kernel
theorem d242_635 : decode (xB 242) 635 = .ok (.iaload, 1) := by decide +kernel
theorem d242_636 : decode (xB 242) 636 = .ok (.invokevirtual 89, 3) := by decide +kernel
theorem d242_639 : decode (xB 242) 639 = .ok (.if_icmp .eq 956, 3) := by decide +kernel
theorem d242_642 : decode (xB 242) 642 = .ok (.iconst 0, 1) := by decide +kernel
theorem d242_643 : decode (xB 242) 643 = .ok (.ireturn, 1) := by decide +kernel
theorem d242_644 : decode (xB 242) 644 = .ok (.aload_n 1, 1) := by decide +kernel
theorem d242_645 : decode (xB 242) 645 = .ok (.aload_n 0, 1) := by decide +kernel
theorem d242_646 : decode (xB 242) 646 = .ok (.iload 4, 2) := by decide +kernel
theorem d242_648 : decode (xB 242) 648 = .ok (.iconst 1, 1) := by decide +kernel
theorem d242_649 : decode (xB 242) 649 = .ok (.iadd, 1) := by decide +kernel
theorem d242_650 : decode (xB 242) 650 = .ok (.iaload, 1) := by decide +kernel
theorem d242_651 : decode (xB 242) 651 = .ok (.invokevirtual 90, 3) := by decide +kernel
theorem d242_654 : decode (xB 242) 654 = .ok (.aload_n 2, 1) := by decide +kernel
theorem d242_655 : decode (xB 242) 655 = .ok (.aload_n 0, 1) := by decide +kernel
theorem d242_656 : decode (xB 242) 656 = .ok (.iload 4, 2) := by decide +kernel
theorem d242_658 : decode (xB 242) 658 = .ok (.iconst 1, 1) := by decide +kernel
theorem d242_659 : decode (xB 242) 659 = .ok (.iadd, 1) := by decide +kernel
theorem d242_660 : decode (xB 242) 660 = .ok (.iaload, 1) := by decide +kernel
theorem d242_661 : decode (xB 242) 661 = .ok (.invokevirtual 93, 3) := by decide +kernel
theorem d242_664 : decode (xB 242) 664 = .ok (.if_icmp .eq 931, 3) := by decide +kernel
theorem d242_667 : decode (xB 242) 667 = .ok (.iconst 0, 1) := by decide +kernel
theorem d242_668 : decode (xB 242) 668 = .ok (.ireturn, 1) := by decide +kernel
theorem d242_669 : decode (xB 242) 669 = .ok (.aload_n 1, 1) := by decide +kernel
theorem d242_670 : decode (xB 242) 670 = .ok (.invokevirtual 94, 3) := by decide +kernel
theorem d242_673 : decode (xB 242) 673 = .ok (.aload_n 2, 1) := by decide +kernel
theorem d242_674 : decode (xB 242) 674 = .ok (.invokevirtual 97, 3) := by decide +kernel
theorem d242_677 : decode (xB 242) 677 = .ok (.if_icmp .eq 918, 3) := by decide +kernel
theorem d242_680 : decode (xB 242) 680 = .ok (.iconst 0, 1) := by decide +kernel
theorem d242_681 : decode (xB 242) 681 = .ok (.ireturn, 1) := by decide +kernel
theorem d242_682 : decode (xB 242) 682 = .ok (.aload_n 1, 1) := by decide +kernel
theorem d242_683 : decode (xB 242) 683 = .ok (.aload_n 0, 1) := by decide +kernel
theorem d242_684 : decode (xB 242) 684 = .ok (.iload 4, 2) := by decide +kernel
theorem d242_686 : decode (xB 242) 686 = .ok (.iconst 1, 1) := by decide +kernel
theorem d242_687 : decode (xB 242) 687 = .ok (.iadd, 1) := by decide +kernel
theorem d242_688 : decode (xB 242) 688 = .ok (.iaload, 1) := by decide +kernel
theorem d242_689 : decode (xB 242) 689 = .ok (.aload_n 0, 1) := by decide +kernel
theorem d242_690 : decode (xB 242) 690 = .ok (.iload 4, 2) := by decide +kernel
theorem d242_692 : decode (xB 242) 692 = .ok (.iconst 2, 1) := by decide +kernel
theorem d242_693 : decode (xB 242) 693 = .ok (.iadd, 1) := by decide +kernel
theorem d242_694 : decode (xB 242) 694 = .ok (.iaload, 1) := by decide +kernel
theorem d242_695 : decode (xB 242) 695 = .ok (.aload_n 3, 1) := by decide +kernel
theorem d242_696 : decode (xB 242) 696 = .ok (.invokestatic 98, 3) := by decide +kernel
theorem d242_699 : decode (xB 242) 699 = .ok (.istore 5, 2) := by decide +kernel
theorem d242_701 : decode (xB 242) 701 = .ok (.aload_n 2, 1) := by decide +kernel
theorem d242_702 : decode (xB 242) 702 = .ok (.aload_n 0, 1) := by decide +kernel
theorem d242_703 : decode (xB 242) 703 = .ok (.iload 4, 2) := by decide +kernel
theorem d242_705 : decode (xB 242) 705 = .ok (.iconst 1, 1) := by decide +kernel
theorem d242_706 : decode (xB 242) 706 = .ok (.iadd, 1) := by decide +kernel
theorem d242_707 : decode (xB 242) 707 = .ok (.iaload, 1) := by decide +kernel
theorem d242_708 : decode (xB 242) 708 = .ok (.aload_n 0, 1) := by decide +kernel
theorem d242_709 : decode (xB 242) 709 = .ok (.iload 4, 2) := by decide +kernel
theorem d242_711 : decode (xB 242) 711 = .ok (.iconst 2, 1) := by decide +kernel
theorem d242_712 : decode (xB 242) 712 = .ok (.iadd, 1) := by decide +kernel
theorem d242_713 : decode (xB 242) 713 = .ok (.iaload, 1) := by decide +kernel
theorem d242_714 : decode (xB 242) 714 = .ok (.invokevirtual 100, 3) := by decide +kernel
theorem d242_717 : decode (xB 242) 717 = .ok (.istore 6, 2) := by decide +kernel
theorem d242_719 : decode (xB 242) 719 = .ok (.aload_n 2, 1) := by decide +kernel
theorem d242_720 : decode (xB 242) 720 = .ok (.invokevirtual 57, 3) := by decide +kernel
theorem d242_723 : decode (xB 242) 723 = .ok (.iload 5, 2) := by decide +kernel
theorem d242_725 : decode (xB 242) 725 = .ok (.if_icmp .eq 5, 3) := by decide +kernel
theorem d242_728 : decode (xB 242) 728 = .ok (.iconst 0, 1) := by decide +kernel
theorem d242_729 : decode (xB 242) 729 = .ok (.ireturn, 1) := by decide +kernel
theorem d242_730 : decode (xB 242) 730 = .ok (.iload 5, 2) := by decide +kernel
theorem d242_732 : decode (xB 242) 732 = .ok (.ifCond .ne 15, 3) := by decide +kernel
theorem d242_735 : decode (xB 242) 735 = .ok (.aload_n 3, 1) := by decide +kernel
theorem d242_736 : decode (xB 242) 736 = .ok (.iconst 0, 1) := by decide +kernel
theorem d242_737 : decode (xB 242) 737 = .ok (.laload, 1) := by decide +kernel
theorem d242_738 : decode (xB 242) 738 = .ok (.iload 6, 2) := by decide +kernel
theorem d242_740 : decode (xB 242) 740 = .ok (.i2l, 1) := by decide +kernel
theorem d242_741 : decode (xB 242) 741 = .ok (.lcmp, 1) := by decide +kernel
theorem d242_742 : decode (xB 242) 742 = .ok (.ifCond .eq 5, 3) := by decide +kernel
theorem d242_745 : decode (xB 242) 745 = .ok (.iconst 0, 1) := by decide +kernel
theorem d242_746 : decode (xB 242) 746 = .ok (.ireturn, 1) := by decide +kernel
theorem d242_747 : decode (xB 242) 747 = .ok (.goto 848, 3) := by decide +kernel
theorem d242_750 : decode (xB 242) 750 = .ok (.aload_n 1, 1) := by decide +kernel
theorem d242_751 : decode (xB 242) 751 = .ok (.aload_n 0, 1) := by decide +kernel
theorem d242_752 : decode (xB 242) 752 = .ok (.iload 4, 2) := by decide +kernel
theorem d242_754 : decode (xB 242) 754 = .ok (.iconst 1, 1) := by decide +kernel
theorem d242_755 : decode (xB 242) 755 = .ok (.iadd, 1) := by decide +kernel
theorem d242_756 : decode (xB 242) 756 = .ok (.iaload, 1) := by decide +kernel
theorem d242_757 : decode (xB 242) 757 = .ok (.aload_n 0, 1) := by decide +kernel
theorem d242_758 : decode (xB 242) 758 = .ok (.iload 4, 2) := by decide +kernel
theorem d242_760 : decode (xB 242) 760 = .ok (.iconst 2, 1) := by decide +kernel
theorem d242_761 : decode (xB 242) 761 = .ok (.iadd, 1) := by decide +kernel
theorem d242_762 : decode (xB 242) 762 = .ok (.iaload, 1) := by decide +kernel
theorem d242_763 : decode (xB 242) 763 = .ok (.invokevirtual 101, 3) := by decide +kernel
theorem d242_766 : decode (xB 242) 766 = .ok (.aload_n 2, 1) := by decide +kernel
theorem d242_767 : decode (xB 242) 767 = .ok (.aload_n 0, 1) := by decide +kernel
theorem d242_768 : decode (xB 242) 768 = .ok (.iload 4, 2) := by decide +kernel
theorem d242_770 : decode (xB 242) 770 = .ok (.iconst 1, 1) := by decide +kernel
theorem d242_771 : decode (xB 242) 771 = .ok (.iadd, 1) := by decide +kernel
theorem d242_772 : decode (xB 242) 772 = .ok (.iaload, 1) := by decide +kernel
theorem d242_773 : decode (xB 242) 773 = .ok (.aload_n 0, 1) := by decide +kernel
theorem d242_774 : decode (xB 242) 774 = .ok (.iload 4, 2) := by decide +kernel
theorem d242_776 : decode (xB 242) 776 = .ok (.iconst 2, 1) := by decide +kernel
theorem d242_777 : decode (xB 242) 777 = .ok (.iadd, 1) := by decide +kernel
theorem d242_778 : decode (xB 242) 778 = .ok (.iaload, 1) := by decide +kernel
theorem d242_779 : decode (xB 242) 779 = .ok (.invokevirtual 104, 3) := by decide +kernel
theorem d242_782 : decode (xB 242) 782 = .ok (.if_icmp .eq 813, 3) := by decide +kernel
theorem d242_785 : decode (xB 242) 785 = .ok (.iconst 0, 1) := by decide +kernel
theorem d242_786 : decode (xB 242) 786 = .ok (.ireturn, 1) := by decide +kernel
theorem d242_787 : decode (xB 242) 787 = .ok (.aload_n 1, 1) := by decide +kernel
theorem d242_788 : decode (xB 242) 788 = .ok (.aload_n 0, 1) := by decide +kernel
theorem d242_789 : decode (xB 242) 789 = .ok (.iload 4, 2) := by decide +kernel
theorem d242_791 : decode (xB 242) 791 = .ok (.iconst 1, 1) := by decide +kernel
theorem d242_792 : decode (xB 242) 792 = .ok (.iadd, 1) := by decide +kernel
theorem d242_793 : decode (xB 242) 793 = .ok (.iaload, 1) := by decide +kernel
theorem d242_794 : decode (xB 242) 794 = .ok (.aload_n 0, 1) := by decide +kernel
theorem d242_795 : decode (xB 242) 795 = .ok (.iload 4, 2) := by decide +kernel
theorem d242_797 : decode (xB 242) 797 = .ok (.iconst 2, 1) := by decide +kernel
theorem d242_798 : decode (xB 242) 798 = .ok (.iadd, 1) := by decide +kernel
theorem d242_799 : decode (xB 242) 799 = .ok (.iaload, 1) := by decide +kernel
theorem d242_800 : decode (xB 242) 800 = .ok (.invokevirtual 105, 3) := by decide +kernel
theorem d242_803 : decode (xB 242) 803 = .ok (.aload_n 2, 1) := by decide +kernel
theorem d242_804 : decode (xB 242) 804 = .ok (.aload_n 0, 1) := by decide +kernel
theorem d242_805 : decode (xB 242) 805 = .ok (.iload 4, 2) := by decide +kernel
theorem d242_807 : decode (xB 242) 807 = .ok (.iconst 1, 1) := by decide +kernel
theorem d242_808 : decode (xB 242) 808 = .ok (.iadd, 1) := by decide +kernel
theorem d242_809 : decode (xB 242) 809 = .ok (.iaload, 1) := by decide +kernel
theorem d242_810 : decode (xB 242) 810 = .ok (.aload_n 0, 1) := by decide +kernel
theorem d242_811 : decode (xB 242) 811 = .ok (.iload 4, 2) := by decide +kernel
theorem d242_813 : decode (xB 242) 813 = .ok (.iconst 2, 1) := by decide +kernel
theorem d242_814 : decode (xB 242) 814 = .ok (.iadd, 1) := by decide +kernel
theorem d242_815 : decode (xB 242) 815 = .ok (.iaload, 1) := by decide +kernel
theorem d242_816 : decode (xB 242) 816 = .ok (.invokevirtual 108, 3) := by decide +kernel
theorem d242_819 : decode (xB 242) 819 = .ok (.if_icmp .eq 776, 3) := by decide +kernel
theorem d242_822 : decode (xB 242) 822 = .ok (.iconst 0, 1) := by decide +kernel
theorem d242_823 : decode (xB 242) 823 = .ok (.ireturn, 1) := by decide +kernel
theorem d242_824 : decode (xB 242) 824 = .ok (.aload_n 1, 1) := by decide +kernel
theorem d242_825 : decode (xB 242) 825 = .ok (.invokevirtual 109, 3) := by decide +kernel
theorem d242_828 : decode (xB 242) 828 = .ok (.aload_n 2, 1) := by decide +kernel
theorem d242_829 : decode (xB 242) 829 = .ok (.invokevirtual 112, 3) := by decide +kernel
theorem d242_832 : decode (xB 242) 832 = .ok (.if_icmp .eq 763, 3) := by decide +kernel
theorem d242_835 : decode (xB 242) 835 = .ok (.iconst 0, 1) := by decide +kernel
theorem d242_836 : decode (xB 242) 836 = .ok (.ireturn, 1) := by decide +kernel
theorem d242_837 : decode (xB 242) 837 = .ok (.aload_n 1, 1) := by decide +kernel
theorem d242_838 : decode (xB 242) 838 = .ok (.aload_n 0, 1) := by decide +kernel
theorem d242_839 : decode (xB 242) 839 = .ok (.iload 4, 2) := by decide +kernel
theorem d242_841 : decode (xB 242) 841 = .ok (.iconst 1, 1) := by decide +kernel
theorem d242_842 : decode (xB 242) 842 = .ok (.iadd, 1) := by decide +kernel
theorem d242_843 : decode (xB 242) 843 = .ok (.iaload, 1) := by decide +kernel
theorem d242_844 : decode (xB 242) 844 = .ok (.aload_n 0, 1) := by decide +kernel
theorem d242_845 : decode (xB 242) 845 = .ok (.iload 4, 2) := by decide +kernel
theorem d242_847 : decode (xB 242) 847 = .ok (.iconst 2, 1) := by decide +kernel
theorem d242_848 : decode (xB 242) 848 = .ok (.iadd, 1) := by decide +kernel
theorem d242_849 : decode (xB 242) 849 = .ok (.iaload, 1) := by decide +kernel
theorem d242_850 : decode (xB 242) 850 = .ok (.aload_n 0, 1) := by decide +kernel
theorem d242_851 : decode (xB 242) 851 = .ok (.iload 4, 2) := by decide +kernel
theorem d242_853 : decode (xB 242) 853 = .ok (.iconst 3, 1) := by decide +kernel
theorem d242_854 : decode (xB 242) 854 = .ok (.iadd, 1) := by decide +kernel
theorem d242_855 : decode (xB 242) 855 = .ok (.iaload, 1) := by decide +kernel
theorem d242_856 : decode (xB 242) 856 = .ok (.invokevirtual 113, 3) := by decide +kernel
theorem d242_859 : decode (xB 242) 859 = .ok (.aload_n 2, 1) := by decide +kernel
theorem d242_860 : decode (xB 242) 860 = .ok (.aload_n 0, 1) := by decide +kernel
theorem d242_861 : decode (xB 242) 861 = .ok (.iload 4, 2) := by decide +kernel
theorem d242_863 : decode (xB 242) 863 = .ok (.iconst 1, 1) := by decide +kernel
theorem d242_864 : decode (xB 242) 864 = .ok (.iadd, 1) := by decide +kernel
theorem d242_865 : decode (xB 242) 865 = .ok (.iaload, 1) := by decide +kernel
theorem d242_866 : decode (xB 242) 866 = .ok (.aload_n 0, 1) := by decide +kernel
theorem d242_867 : decode (xB 242) 867 = .ok (.iload 4, 2) := by decide +kernel
theorem d242_869 : decode (xB 242) 869 = .ok (.iconst 2, 1) := by decide +kernel
theorem d242_870 : decode (xB 242) 870 = .ok (.iadd, 1) := by decide +kernel
theorem d242_871 : decode (xB 242) 871 = .ok (.iaload, 1) := by decide +kernel
theorem d242_872 : decode (xB 242) 872 = .ok (.aload_n 0, 1) := by decide +kernel
theorem d242_873 : decode (xB 242) 873 = .ok (.iload 4, 2) := by decide +kernel
theorem d242_875 : decode (xB 242) 875 = .ok (.iconst 3, 1) := by decide +kernel
theorem d242_876 : decode (xB 242) 876 = .ok (.iadd, 1) := by decide +kernel
theorem d242_877 : decode (xB 242) 877 = .ok (.iaload, 1) := by decide +kernel
theorem d242_878 : decode (xB 242) 878 = .ok (.invokevirtual 117, 3) := by decide +kernel
theorem d242_881 : decode (xB 242) 881 = .ok (.if_icmp .eq 714, 3) := by decide +kernel
theorem d242_884 : decode (xB 242) 884 = .ok (.iconst 0, 1) := by decide +kernel
theorem d242_885 : decode (xB 242) 885 = .ok (.ireturn, 1) := by decide +kernel
theorem d242_886 : decode (xB 242) 886 = .ok (.aload_n 1, 1) := by decide +kernel
theorem d242_887 : decode (xB 242) 887 = .ok (.invokevirtual 118, 3) := by decide +kernel
theorem d242_890 : decode (xB 242) 890 = .ok (.aload_n 2, 1) := by decide +kernel
theorem d242_891 : decode (xB 242) 891 = .ok (.invokevirtual 121, 3) := by decide +kernel
theorem d242_894 : decode (xB 242) 894 = .ok (.if_icmp .eq 701, 3) := by decide +kernel
theorem d242_897 : decode (xB 242) 897 = .ok (.iconst 0, 1) := by decide +kernel
theorem d242_898 : decode (xB 242) 898 = .ok (.ireturn, 1) := by decide +kernel
theorem d242_899 : decode (xB 242) 899 = .ok (.aload_n 1, 1) := by decide +kernel
theorem d242_900 : decode (xB 242) 900 = .ok (.invokevirtual 122, 3) := by decide +kernel
theorem d242_903 : decode (xB 242) 903 = .ok (.aload_n 2, 1) := by decide +kernel
theorem d242_904 : decode (xB 242) 904 = .ok (.invokevirtual 125, 3) := by decide +kernel
theorem d242_907 : decode (xB 242) 907 = .ok (.if_icmp .eq 688, 3) := by decide +kernel
theorem d242_910 : decode (xB 242) 910 = .ok (.iconst 0, 1) := by decide +kernel
theorem d242_911 : decode (xB 242) 911 = .ok (.ireturn, 1) := by decide +kernel
theorem d242_912 : decode (xB 242) 912 = .ok (.aload_n 1, 1) := by decide +kernel
theorem d242_913 : decode (xB 242) 913 = .ok (.aload_n 0, 1) := by decide +kernel
theorem d242_914 : decode (xB 242) 914 = .ok (.iload 4, 2) := by decide +kernel
theorem d242_916 : decode (xB 242) 916 = .ok (.iconst 1, 1) := by decide +kernel
theorem d242_917 : decode (xB 242) 917 = .ok (.iadd, 1) := by decide +kernel
theorem d242_918 : decode (xB 242) 918 = .ok (.iaload, 1) := by decide +kernel
theorem d242_919 : decode (xB 242) 919 = .ok (.aload_n 0, 1) := by decide +kernel
theorem d242_920 : decode (xB 242) 920 = .ok (.iload 4, 2) := by decide +kernel
theorem d242_922 : decode (xB 242) 922 = .ok (.iconst 2, 1) := by decide +kernel
theorem d242_923 : decode (xB 242) 923 = .ok (.iadd, 1) := by decide +kernel
theorem d242_924 : decode (xB 242) 924 = .ok (.iaload, 1) := by decide +kernel
theorem d242_925 : decode (xB 242) 925 = .ok (.invokevirtual 126, 3) := by decide +kernel
theorem d242_928 : decode (xB 242) 928 = .ok (.aload_n 2, 1) := by decide +kernel
theorem d242_929 : decode (xB 242) 929 = .ok (.aload_n 0, 1) := by decide +kernel
theorem d242_930 : decode (xB 242) 930 = .ok (.iload 4, 2) := by decide +kernel
theorem d242_932 : decode (xB 242) 932 = .ok (.iconst 1, 1) := by decide +kernel
theorem d242_933 : decode (xB 242) 933 = .ok (.iadd, 1) := by decide +kernel
theorem d242_934 : decode (xB 242) 934 = .ok (.iaload, 1) := by decide +kernel
theorem d242_935 : decode (xB 242) 935 = .ok (.aload_n 0, 1) := by decide +kernel
theorem d242_936 : decode (xB 242) 936 = .ok (.iload 4, 2) := by decide +kernel
theorem d242_938 : decode (xB 242) 938 = .ok (.iconst 2, 1) := by decide +kernel
theorem d242_939 : decode (xB 242) 939 = .ok (.iadd, 1) := by decide +kernel
theorem d242_940 : decode (xB 242) 940 = .ok (.iaload, 1) := by decide +kernel
theorem d242_941 : decode (xB 242) 941 = .ok (.invokevirtual 129, 3) := by decide +kernel
theorem d242_944 : decode (xB 242) 944 = .ok (.if_icmp .eq 651, 3) := by decide +kernel
theorem d242_947 : decode (xB 242) 947 = .ok (.iconst 0, 1) := by decide +kernel
theorem d242_948 : decode (xB 242) 948 = .ok (.ireturn, 1) := by decide +kernel
theorem d242_949 : decode (xB 242) 949 = .ok (.aload_n 1, 1) := by decide +kernel
theorem d242_950 : decode (xB 242) 950 = .ok (.aload_n 0, 1) := by decide +kernel
theorem d242_951 : decode (xB 242) 951 = .ok (.iload 4, 2) := by decide +kernel
theorem d242_953 : decode (xB 242) 953 = .ok (.iconst 1, 1) := by decide +kernel
theorem d242_954 : decode (xB 242) 954 = .ok (.iadd, 1) := by decide +kernel
theorem d242_955 : decode (xB 242) 955 = .ok (.iaload, 1) := by decide +kernel
theorem d242_956 : decode (xB 242) 956 = .ok (.aload_n 0, 1) := by decide +kernel
theorem d242_957 : decode (xB 242) 957 = .ok (.iload 4, 2) := by decide +kernel
theorem d242_959 : decode (xB 242) 959 = .ok (.iconst 2, 1) := by decide +kernel
theorem d242_960 : decode (xB 242) 960 = .ok (.iadd, 1) := by decide +kernel
theorem d242_961 : decode (xB 242) 961 = .ok (.iaload, 1) := by decide +kernel
theorem d242_962 : decode (xB 242) 962 = .ok (.aload_n 0, 1) := by decide +kernel
theorem d242_963 : decode (xB 242) 963 = .ok (.iload 4, 2) := by decide +kernel
theorem d242_965 : decode (xB 242) 965 = .ok (.iconst 3, 1) := by decide +kernel
theorem d242_966 : decode (xB 242) 966 = .ok (.iadd, 1) := by decide +kernel
theorem d242_967 : decode (xB 242) 967 = .ok (.iaload, 1) := by decide +kernel
theorem d242_968 : decode (xB 242) 968 = .ok (.invokevirtual 130, 3) := by decide +kernel
theorem d242_971 : decode (xB 242) 971 = .ok (.aload_n 2, 1) := by decide +kernel
theorem d242_972 : decode (xB 242) 972 = .ok (.aload_n 0, 1) := by decide +kernel
theorem d242_973 : decode (xB 242) 973 = .ok (.iload 4, 2) := by decide +kernel
theorem d242_975 : decode (xB 242) 975 = .ok (.iconst 1, 1) := by decide +kernel
theorem d242_976 : decode (xB 242) 976 = .ok (.iadd, 1) := by decide +kernel
theorem d242_977 : decode (xB 242) 977 = .ok (.iaload, 1) := by decide +kernel
theorem d242_978 : decode (xB 242) 978 = .ok (.aload_n 0, 1) := by decide +kernel
theorem d242_979 : decode (xB 242) 979 = .ok (.iload 4, 2) := by decide +kernel
theorem d242_981 : decode (xB 242) 981 = .ok (.iconst 2, 1) := by decide +kernel
theorem d242_982 : decode (xB 242) 982 = .ok (.iadd, 1) := by decide +kernel
theorem d242_983 : decode (xB 242) 983 = .ok (.iaload, 1) := by decide +kernel
theorem d242_984 : decode (xB 242) 984 = .ok (.aload_n 0, 1) := by decide +kernel
theorem d242_985 : decode (xB 242) 985 = .ok (.iload 4, 2) := by decide +kernel
theorem d242_987 : decode (xB 242) 987 = .ok (.iconst 3, 1) := by decide +kernel
theorem d242_988 : decode (xB 242) 988 = .ok (.iadd, 1) := by decide +kernel
theorem d242_989 : decode (xB 242) 989 = .ok (.iaload, 1) := by decide +kernel
theorem d242_990 : decode (xB 242) 990 = .ok (.invokevirtual 134, 3) := by decide +kernel
theorem d242_993 : decode (xB 242) 993 = .ok (.if_icmp .eq 602, 3) := by decide +kernel
theorem d242_996 : decode (xB 242) 996 = .ok (.iconst 0, 1) := by decide +kernel
theorem d242_997 : decode (xB 242) 997 = .ok (.ireturn, 1) := by decide +kernel
theorem d242_998 : decode (xB 242) 998 = .ok (.aload_n 1, 1) := by decide +kernel
theorem d242_999 : decode (xB 242) 999 = .ok (.aload_n 0, 1) := by decide +kernel
theorem d242_1000 : decode (xB 242) 1000 = .ok (.iload 4, 2) := by decide +kernel
theorem d242_1002 : decode (xB 242) 1002 = .ok (.iconst 1, 1) := by decide +kernel
theorem d242_1003 : decode (xB 242) 1003 = .ok (.iadd, 1) := by decide +kernel
theorem d242_1004 : decode (xB 242) 1004 = .ok (.iaload, 1) := by decide +kernel
theorem d242_1005 : decode (xB 242) 1005 = .ok (.aload_n 0, 1) := by decide +kernel
theorem d242_1006 : decode (xB 242) 1006 = .ok (.iload 4, 2) := by decide +kernel
theorem d242_1008 : decode (xB 242) 1008 = .ok (.iconst 2, 1) := by decide +kernel
theorem d242_1009 : decode (xB 242) 1009 = .ok (.iadd, 1) := by decide +kernel
theorem d242_1010 : decode (xB 242) 1010 = .ok (.iaload, 1) := by decide +kernel
theorem d242_1011 : decode (xB 242) 1011 = .ok (.invokevirtual 135, 3) := by decide +kernel
theorem d242_1014 : decode (xB 242) 1014 = .ok (.aload_n 2, 1) := by decide +kernel
theorem d242_1015 : decode (xB 242) 1015 = .ok (.aload_n 0, 1) := by decide +kernel
theorem d242_1016 : decode (xB 242) 1016 = .ok (.iload 4, 2) := by decide +kernel
theorem d242_1018 : decode (xB 242) 1018 = .ok (.iconst 1, 1) := by decide +kernel
theorem d242_1019 : decode (xB 242) 1019 = .ok (.iadd, 1) := by decide +kernel
theorem d242_1020 : decode (xB 242) 1020 = .ok (.iaload, 1) := by decide +kernel
theorem d242_1021 : decode (xB 242) 1021 = .ok (.aload_n 0, 1) := by decide +kernel
theorem d242_1022 : decode (xB 242) 1022 = .ok (.iload 4, 2) := by decide +kernel
theorem d242_1024 : decode (xB 242) 1024 = .ok (.iconst 2, 1) := by decide +kernel
theorem d242_1025 : decode (xB 242) 1025 = .ok (.iadd, 1) := by decide +kernel
theorem d242_1026 : decode (xB 242) 1026 = .ok (.iaload, 1) := by decide +kernel
theorem d242_1027 : decode (xB 242) 1027 = .ok (.invokevirtual 138, 3) := by decide +kernel
theorem d242_1030 : decode (xB 242) 1030 = .ok (.if_icmp .eq 565, 3) := by decide +kernel
theorem d242_1033 : decode (xB 242) 1033 = .ok (.iconst 0, 1) := by decide +kernel
theorem d242_1034 : decode (xB 242) 1034 = .ok (.ireturn, 1) := by decide +kernel
theorem d242_1035 : decode (xB 242) 1035 = .ok (.aload_n 1, 1) := by decide +kernel
theorem d242_1036 : decode (xB 242) 1036 = .ok (.aload_n 0, 1) := by decide +kernel
theorem d242_1037 : decode (xB 242) 1037 = .ok (.iload 4, 2) := by decide +kernel
theorem d242_1039 : decode (xB 242) 1039 = .ok (.iconst 1, 1) := by decide +kernel
theorem d242_1040 : decode (xB 242) 1040 = .ok (.iadd, 1) := by decide +kernel
theorem d242_1041 : decode (xB 242) 1041 = .ok (.iaload, 1) := by decide +kernel
theorem d242_1042 : decode (xB 242) 1042 = .ok (.aload_n 0, 1) := by decide +kernel
theorem d242_1043 : decode (xB 242) 1043 = .ok (.iload 4, 2) := by decide +kernel
theorem d242_1045 : decode (xB 242) 1045 = .ok (.iconst 2, 1) := by decide +kernel
theorem d242_1046 : decode (xB 242) 1046 = .ok (.iadd, 1) := by decide +kernel
theorem d242_1047 : decode (xB 242) 1047 = .ok (.iaload, 1) := by decide +kernel
theorem d242_1048 : decode (xB 242) 1048 = .ok (.aload_n 0, 1) := by decide +kernel
theorem d242_1049 : decode (xB 242) 1049 = .ok (.iload 4, 2) := by decide +kernel
theorem d242_1051 : decode (xB 242) 1051 = .ok (.iconst 3, 1) := by decide +kernel
theorem d242_1052 : decode (xB 242) 1052 = .ok (.iadd, 1) := by decide +kernel
theorem d242_1053 : decode (xB 242) 1053 = .ok (.iaload, 1) := by decide +kernel
theorem d242_1054 : decode (xB 242) 1054 = .ok (.invokevirtual 139, 3) := by decide +kernel
theorem d242_1057 : decode (xB 242) 1057 = .ok (.aload_n 2, 1) := by decide +kernel
theorem d242_1058 : decode (xB 242) 1058 = .ok (.aload_n 0, 1) := by decide +kernel
theorem d242_1059 : decode (xB 242) 1059 = .ok (.iload 4, 2) := by decide +kernel
theorem d242_1061 : decode (xB 242) 1061 = .ok (.iconst 1, 1) := by decide +kernel
theorem d242_1062 : decode (xB 242) 1062 = .ok (.iadd, 1) := by decide +kernel
theorem d242_1063 : decode (xB 242) 1063 = .ok (.iaload, 1) := by decide +kernel
theorem d242_1064 : decode (xB 242) 1064 = .ok (.aload_n 0, 1) := by decide +kernel
theorem d242_1065 : decode (xB 242) 1065 = .ok (.iload 4, 2) := by decide +kernel
theorem d242_1067 : decode (xB 242) 1067 = .ok (.iconst 2, 1) := by decide +kernel
theorem d242_1068 : decode (xB 242) 1068 = .ok (.iadd, 1) := by decide +kernel
theorem d242_1069 : decode (xB 242) 1069 = .ok (.iaload, 1) := by decide +kernel
theorem d242_1070 : decode (xB 242) 1070 = .ok (.aload_n 0, 1) := by decide +kernel
theorem d242_1071 : decode (xB 242) 1071 = .ok (.iload 4, 2) := by decide +kernel
theorem d242_1073 : decode (xB 242) 1073 = .ok (.iconst 3, 1) := by decide +kernel
theorem d242_1074 : decode (xB 242) 1074 = .ok (.iadd, 1) := by decide +kernel
theorem d242_1075 : decode (xB 242) 1075 = .ok (.iaload, 1) := by decide +kernel
theorem d242_1076 : decode (xB 242) 1076 = .ok (.invokevirtual 142, 3) := by decide +kernel
theorem d242_1079 : decode (xB 242) 1079 = .ok (.if_icmp .eq 516, 3) := by decide +kernel
theorem d242_1082 : decode (xB 242) 1082 = .ok (.iconst 0, 1) := by decide +kernel
theorem d242_1083 : decode (xB 242) 1083 = .ok (.ireturn, 1) := by decide +kernel
theorem d242_1084 : decode (xB 242) 1084 = .ok (.aload_n 1, 1) := by decide +kernel
theorem d242_1085 : decode (xB 242) 1085 = .ok (.aload_n 0, 1) := by decide +kernel
theorem d242_1086 : decode (xB 242) 1086 = .ok (.iload 4, 2) := by decide +kernel
theorem d242_1088 : decode (xB 242) 1088 = .ok (.iconst 1, 1) := by decide +kernel
theorem d242_1089 : decode (xB 242) 1089 = .ok (.iadd, 1) := by decide +kernel
theorem d242_1090 : decode (xB 242) 1090 = .ok (.iaload, 1) := by decide +kernel
theorem d242_1091 : decode (xB 242) 1091 = .ok (.aload_n 0, 1) := by decide +kernel
theorem d242_1092 : decode (xB 242) 1092 = .ok (.iload 4, 2) := by decide +kernel
theorem d242_1094 : decode (xB 242) 1094 = .ok (.iconst 2, 1) := by decide +kernel
theorem d242_1095 : decode (xB 242) 1095 = .ok (.iadd, 1) := by decide +kernel
theorem d242_1096 : decode (xB 242) 1096 = .ok (.iaload, 1) := by decide +kernel
theorem d242_1097 : decode (xB 242) 1097 = .ok (.invokevirtual 143, 3) := by decide +kernel
theorem d242_1100 : decode (xB 242) 1100 = .ok (.aload_n 2, 1) := by decide +kernel
theorem d242_1101 : decode (xB 242) 1101 = .ok (.aload_n 0, 1) := by decide +kernel
theorem d242_1102 : decode (xB 242) 1102 = .ok (.iload 4, 2) := by decide +kernel
theorem d242_1104 : decode (xB 242) 1104 = .ok (.iconst 1, 1) := by decide +kernel
theorem d242_1105 : decode (xB 242) 1105 = .ok (.iadd, 1) := by decide +kernel
theorem d242_1106 : decode (xB 242) 1106 = .ok (.iaload, 1) := by decide +kernel
theorem d242_1107 : decode (xB 242) 1107 = .ok (.aload_n 0, 1) := by decide +kernel
theorem d242_1108 : decode (xB 242) 1108 = .ok (.iload 4, 2) := by decide +kernel
theorem d242_1110 : decode (xB 242) 1110 = .ok (.iconst 2, 1) := by decide +kernel
theorem d242_1111 : decode (xB 242) 1111 = .ok (.iadd, 1) := by decide +kernel
theorem d242_1112 : decode (xB 242) 1112 = .ok (.iaload, 1) := by decide +kernel
theorem d242_1113 : decode (xB 242) 1113 = .ok (.invokevirtual 147, 3) := by decide +kernel
theorem d242_1116 : decode (xB 242) 1116 = .ok (.if_icmp .eq 479, 3) := by decide +kernel
theorem d242_1119 : decode (xB 242) 1119 = .ok (.iconst 0, 1) := by decide +kernel
theorem d242_1120 : decode (xB 242) 1120 = .ok (.ireturn, 1) := by decide +kernel
theorem d242_1121 : decode (xB 242) 1121 = .ok (.aload_n 1, 1) := by decide +kernel
theorem d242_1122 : decode (xB 242) 1122 = .ok (.aload_n 0, 1) := by decide +kernel
theorem d242_1123 : decode (xB 242) 1123 = .ok (.iload 4, 2) := by decide +kernel
theorem d242_1125 : decode (xB 242) 1125 = .ok (.iconst 1, 1) := by decide +kernel
theorem d242_1126 : decode (xB 242) 1126 = .ok (.iadd, 1) := by decide +kernel
theorem d242_1127 : decode (xB 242) 1127 = .ok (.iaload, 1) := by decide +kernel
theorem d242_1128 : decode (xB 242) 1128 = .ok (.invokevirtual 148, 3) := by decide +kernel
theorem d242_1131 : decode (xB 242) 1131 = .ok (.aload_n 2, 1) := by decide +kernel
theorem d242_1132 : decode (xB 242) 1132 = .ok (.aload_n 0, 1) := by decide +kernel
theorem d242_1133 : decode (xB 242) 1133 = .ok (.iload 4, 2) := by decide +kernel
theorem d242_1135 : decode (xB 242) 1135 = .ok (.iconst 1, 1) := by decide +kernel
theorem d242_1136 : decode (xB 242) 1136 = .ok (.iadd, 1) := by decide +kernel
theorem d242_1137 : decode (xB 242) 1137 = .ok (.iaload, 1) := by decide +kernel
theorem d242_1138 : decode (xB 242) 1138 = .ok (.invokevirtual 151, 3) := by decide +kernel
theorem d242_1141 : decode (xB 242) 1141 = .ok (.if_icmp .eq 454, 3) := by decide +kernel
theorem d242_1144 : decode (xB 242) 1144 = .ok (.iconst 0, 1) := by decide +kernel
theorem d242_1145 : decode (xB 242) 1145 = .ok (.ireturn, 1) := by decide +kernel
theorem d242_1146 : decode (xB 242) 1146 = .ok (.aload_n 1, 1) := by decide +kernel
theorem d242_1147 : decode (xB 242) 1147 = .ok (.aload_n 0, 1) := by decide +kernel
theorem d242_1148 : decode (xB 242) 1148 = .ok (.iload 4, 2) := by decide +kernel
theorem d242_1150 : decode (xB 242) 1150 = .ok (.iconst 1, 1) := by decide +kernel
theorem d242_1151 : decode (xB 242) 1151 = .ok (.iadd, 1) := by decide +kernel
theorem d242_1152 : decode (xB 242) 1152 = .ok (.iaload, 1) := by decide +kernel
theorem d242_1153 : decode (xB 242) 1153 = .ok (.aload_n 0, 1) := by decide +kernel
theorem d242_1154 : decode (xB 242) 1154 = .ok (.iload 4, 2) := by decide +kernel
theorem d242_1156 : decode (xB 242) 1156 = .ok (.iconst 2, 1) := by decide +kernel
theorem d242_1157 : decode (xB 242) 1157 = .ok (.iadd, 1) := by decide +kernel
theorem d242_1158 : decode (xB 242) 1158 = .ok (.iaload, 1) := by decide +kernel
theorem d242_1159 : decode (xB 242) 1159 = .ok (.invokevirtual 152, 3) := by decide +kernel
theorem d242_1162 : decode (xB 242) 1162 = .ok (.aload_n 2, 1) := by decide +kernel
theorem d242_1163 : decode (xB 242) 1163 = .ok (.aload_n 0, 1) := by decide +kernel
theorem d242_1164 : decode (xB 242) 1164 = .ok (.iload 4, 2) := by decide +kernel
theorem d242_1166 : decode (xB 242) 1166 = .ok (.iconst 1, 1) := by decide +kernel
theorem d242_1167 : decode (xB 242) 1167 = .ok (.iadd, 1) := by decide +kernel
theorem d242_1168 : decode (xB 242) 1168 = .ok (.iaload, 1) := by decide +kernel
theorem d242_1169 : decode (xB 242) 1169 = .ok (.aload_n 0, 1) := by decide +kernel
theorem d242_1170 : decode (xB 242) 1170 = .ok (.iload 4, 2) := by decide +kernel
theorem d242_1172 : decode (xB 242) 1172 = .ok (.iconst 2, 1) := by decide +kernel
theorem d242_1173 : decode (xB 242) 1173 = .ok (.iadd, 1) := by decide +kernel
theorem d242_1174 : decode (xB 242) 1174 = .ok (.iaload, 1) := by decide +kernel
theorem d242_1175 : decode (xB 242) 1175 = .ok (.invokevirtual 155, 3) := by decide +kernel
theorem d242_1178 : decode (xB 242) 1178 = .ok (.if_icmp .eq 417, 3) := by decide +kernel
theorem d242_1181 : decode (xB 242) 1181 = .ok (.iconst 0, 1) := by decide +kernel
theorem d242_1182 : decode (xB 242) 1182 = .ok (.ireturn, 1) := by decide +kernel
theorem d242_1183 : decode (xB 242) 1183 = .ok (.aload_n 1, 1) := by decide +kernel
theorem d242_1184 : decode (xB 242) 1184 = .ok (.aload_n 0, 1) := by decide +kernel
theorem d242_1185 : decode (xB 242) 1185 = .ok (.iload 4, 2) := by decide +kernel
theorem d242_1187 : decode (xB 242) 1187 = .ok (.iconst 1, 1) := by decide +kernel
theorem d242_1188 : decode (xB 242) 1188 = .ok (.iadd, 1) := by decide +kernel
theorem d242_1189 : decode (xB 242) 1189 = .ok (.iaload, 1) := by decide +kernel
theorem d242_1190 : decode (xB 242) 1190 = .ok (.invokevirtual 156, 3) := by decide +kernel
theorem d242_1193 : decode (xB 242) 1193 = .ok (.aload_n 2, 1) := by decide +kernel
theorem d242_1194 : decode (xB 242) 1194 = .ok (.aload_n 0, 1) := by decide +kernel
theorem d242_1195 : decode (xB 242) 1195 = .ok (.iload 4, 2) := by decide +kernel
theorem d242_1197 : decode (xB 242) 1197 = .ok (.iconst 1, 1) := by decide +kernel
theorem d242_1198 : decode (xB 242) 1198 = .ok (.iadd, 1) := by decide +kernel
theorem d242_1199 : decode (xB 242) 1199 = .ok (.iaload, 1) := by decide +kernel
theorem d242_1200 : decode (xB 242) 1200 = .ok (.invokevirtual 159, 3) := by decide +kernel
theorem d242_1203 : decode (xB 242) 1203 = .ok (.if_icmp .eq 392, 3) := by decide +kernel
theorem d242_1206 : decode (xB 242) 1206 = .ok (.iconst 0, 1) := by decide +kernel
theorem d242_1207 : decode (xB 242) 1207 = .ok (.ireturn, 1) := by decide +kernel
theorem d242_1208 : decode (xB 242) 1208 = .ok (.aload_n 1, 1) := by decide +kernel
theorem d242_1209 : decode (xB 242) 1209 = .ok (.aload_n 0, 1) := by decide +kernel
theorem d242_1210 : decode (xB 242) 1210 = .ok (.iload 4, 2) := by decide +kernel
theorem d242_1212 : decode (xB 242) 1212 = .ok (.iconst 1, 1) := by decide +kernel
theorem d242_1213 : decode (xB 242) 1213 = .ok (.iadd, 1) := by decide +kernel
theorem d242_1214 : decode (xB 242) 1214 = .ok (.iaload, 1) := by decide +kernel
theorem d242_1215 : decode (xB 242) 1215 = .ok (.invokevirtual 160, 3) := by decide +kernel
theorem d242_1218 : decode (xB 242) 1218 = .ok (.aload_n 2, 1) := by decide +kernel
theorem d242_1219 : decode (xB 242) 1219 = .ok (.aload_n 0, 1) := by decide +kernel
theorem d242_1220 : decode (xB 242) 1220 = .ok (.iload 4, 2) := by decide +kernel
theorem d242_1222 : decode (xB 242) 1222 = .ok (.iconst 1, 1) := by decide +kernel
theorem d242_1223 : decode (xB 242) 1223 = .ok (.iadd, 1) := by decide +kernel
theorem d242_1224 : decode (xB 242) 1224 = .ok (.iaload, 1) := by decide +kernel
theorem d242_1225 : decode (xB 242) 1225 = .ok (.invokevirtual 163, 3) := by decide +kernel
theorem d242_1228 : decode (xB 242) 1228 = .ok (.if_icmp .eq 367, 3) := by decide +kernel
theorem d242_1231 : decode (xB 242) 1231 = .ok (.iconst 0, 1) := by decide +kernel
theorem d242_1232 : decode (xB 242) 1232 = .ok (.ireturn, 1) := by decide +kernel
theorem d242_1233 : decode (xB 242) 1233 = .ok (.aload_n 1, 1) := by decide +kernel
theorem d242_1234 : decode (xB 242) 1234 = .ok (.aload_n 0, 1) := by decide +kernel
theorem d242_1235 : decode (xB 242) 1235 = .ok (.iload 4, 2) := by decide +kernel
theorem d242_1237 : decode (xB 242) 1237 = .ok (.iconst 1, 1) := by decide +kernel
theorem d242_1238 : decode (xB 242) 1238 = .ok (.iadd, 1) := by decide +kernel
theorem d242_1239 : decode (xB 242) 1239 = .ok (.iaload, 1) := by decide +kernel
theorem d242_1240 : decode (xB 242) 1240 = .ok (.invokevirtual 164, 3) := by decide +kernel
theorem d242_1243 : decode (xB 242) 1243 = .ok (.aload_n 2, 1) := by decide +kernel
theorem d242_1244 : decode (xB 242) 1244 = .ok (.aload_n 0, 1) := by decide +kernel
theorem d242_1245 : decode (xB 242) 1245 = .ok (.iload 4, 2) := by decide +kernel
theorem d242_1247 : decode (xB 242) 1247 = .ok (.iconst 1, 1) := by decide +kernel
theorem d242_1248 : decode (xB 242) 1248 = .ok (.iadd, 1) := by decide +kernel
theorem d242_1249 : decode (xB 242) 1249 = .ok (.iaload, 1) := by decide +kernel
theorem d242_1250 : decode (xB 242) 1250 = .ok (.invokevirtual 167, 3) := by decide +kernel
theorem d242_1253 : decode (xB 242) 1253 = .ok (.if_icmp .eq 342, 3) := by decide +kernel
theorem d242_1256 : decode (xB 242) 1256 = .ok (.iconst 0, 1) := by decide +kernel
theorem d242_1257 : decode (xB 242) 1257 = .ok (.ireturn, 1) := by decide +kernel
theorem d242_1258 : decode (xB 242) 1258 = .ok (.aload_n 1, 1) := by decide +kernel
theorem d242_1259 : decode (xB 242) 1259 = .ok (.aload_n 0, 1) := by decide +kernel
theorem d242_1260 : decode (xB 242) 1260 = .ok (.iload 4, 2) := by decide +kernel
theorem d242_1262 : decode (xB 242) 1262 = .ok (.iconst 1, 1) := by decide +kernel
theorem d242_1263 : decode (xB 242) 1263 = .ok (.iadd, 1) := by decide +kernel
theorem d242_1264 : decode (xB 242) 1264 = .ok (.iaload, 1) := by decide +kernel
theorem d242_1265 : decode (xB 242) 1265 = .ok (.invokevirtual 168, 3) := by decide +kernel
theorem d242_1268 : decode (xB 242) 1268 = .ok (.aload_n 2, 1) := by decide +kernel
theorem d242_1269 : decode (xB 242) 1269 = .ok (.aload_n 0, 1) := by decide +kernel
theorem d242_1270 : decode (xB 242) 1270 = .ok (.iload 4, 2) := by decide +kernel
theorem d242_1272 : decode (xB 242) 1272 = .ok (.iconst 1, 1) := by decide +kernel
theorem d242_1273 : decode (xB 242) 1273 = .ok (.iadd, 1) := by decide +kernel
theorem d242_1274 : decode (xB 242) 1274 = .ok (.iaload, 1) := by decide +kernel
theorem d242_1275 : decode (xB 242) 1275 = .ok (.invokevirtual 171, 3) := by decide +kernel
theorem d242_1278 : decode (xB 242) 1278 = .ok (.if_icmp .eq 317, 3) := by decide +kernel
theorem d242_1281 : decode (xB 242) 1281 = .ok (.iconst 0, 1) := by decide +kernel
theorem d242_1282 : decode (xB 242) 1282 = .ok (.ireturn, 1) := by decide +kernel
theorem d242_1283 : decode (xB 242) 1283 = .ok (.aload_n 1, 1) := by decide +kernel
theorem d242_1284 : decode (xB 242) 1284 = .ok (.aload_n 0, 1) := by decide +kernel
theorem d242_1285 : decode (xB 242) 1285 = .ok (.iload 4, 2) := by decide +kernel
theorem d242_1287 : decode (xB 242) 1287 = .ok (.iconst 1, 1) := by decide +kernel
theorem d242_1288 : decode (xB 242) 1288 = .ok (.iadd, 1) := by decide +kernel
theorem d242_1289 : decode (xB 242) 1289 = .ok (.iaload, 1) := by decide +kernel
theorem d242_1290 : decode (xB 242) 1290 = .ok (.aload_n 0, 1) := by decide +kernel
theorem d242_1291 : decode (xB 242) 1291 = .ok (.iload 4, 2) := by decide +kernel
theorem d242_1293 : decode (xB 242) 1293 = .ok (.iconst 2, 1) := by decide +kernel
theorem d242_1294 : decode (xB 242) 1294 = .ok (.iadd, 1) := by decide +kernel
theorem d242_1295 : decode (xB 242) 1295 = .ok (.iaload, 1) := by decide +kernel
theorem d242_1296 : decode (xB 242) 1296 = .ok (.invokevirtual 172, 3) := by decide +kernel
theorem d242_1299 : decode (xB 242) 1299 = .ok (.aload_n 2, 1) := by decide +kernel
theorem d242_1300 : decode (xB 242) 1300 = .ok (.aload_n 0, 1) := by decide +kernel
theorem d242_1301 : decode (xB 242) 1301 = .ok (.iload 4, 2) := by decide +kernel
theorem d242_1303 : decode (xB 242) 1303 = .ok (.iconst 1, 1) := by decide +kernel
theorem d242_1304 : decode (xB 242) 1304 = .ok (.iadd, 1) := by decide +kernel
theorem d242_1305 : decode (xB 242) 1305 = .ok (.iaload, 1) := by decide +kernel
theorem d242_1306 : decode (xB 242) 1306 = .ok (.aload_n 0, 1) := by decide +kernel
theorem d242_1307 : decode (xB 242) 1307 = .ok (.iload 4, 2) := by decide +kernel
theorem d242_1309 : decode (xB 242) 1309 = .ok (.iconst 2, 1) := by decide +kernel
theorem d242_1310 : decode (xB 242) 1310 = .ok (.iadd, 1) := by decide +kernel
theorem d242_1311 : decode (xB 242) 1311 = .ok (.iaload, 1) := by decide +kernel
theorem d242_1312 : decode (xB 242) 1312 = .ok (.invokevirtual 175, 3) := by decide +kernel
theorem d242_1315 : decode (xB 242) 1315 = .ok (.if_icmp .eq 280, 3) := by decide +kernel
theorem d242_1318 : decode (xB 242) 1318 = .ok (.iconst 0, 1) := by decide +kernel
theorem d242_1319 : decode (xB 242) 1319 = .ok (.ireturn, 1) := by decide +kernel
theorem d242_1320 : decode (xB 242) 1320 = .ok (.aload_n 1, 1) := by decide +kernel
theorem d242_1321 : decode (xB 242) 1321 = .ok (.invokevirtual 176, 3) := by decide +kernel
theorem d242_1324 : decode (xB 242) 1324 = .ok (.aload_n 2, 1) := by decide +kernel
theorem d242_1325 : decode (xB 242) 1325 = .ok (.invokevirtual 179, 3) := by decide +kernel
theorem d242_1328 : decode (xB 242) 1328 = .ok (.if_icmp .eq 267, 3) := by decide +kernel
theorem d242_1331 : decode (xB 242) 1331 = .ok (.iconst 0, 1) := by decide +kernel
theorem d242_1332 : decode (xB 242) 1332 = .ok (.ireturn, 1) := by decide +kernel
theorem d242_1333 : decode (xB 242) 1333 = .ok (.aload_n 1, 1) := by decide +kernel
theorem d242_1334 : decode (xB 242) 1334 = .ok (.aload_n 0, 1) := by decide +kernel
theorem d242_1335 : decode (xB 242) 1335 = .ok (.iload 4, 2) := by decide +kernel
theorem d242_1337 : decode (xB 242) 1337 = .ok (.iconst 1, 1) := by decide +kernel
theorem d242_1338 : decode (xB 242) 1338 = .ok (.iadd, 1) := by decide +kernel
theorem d242_1339 : decode (xB 242) 1339 = .ok (.iaload, 1) := by decide +kernel
theorem d242_1340 : decode (xB 242) 1340 = .ok (.invokevirtual 180, 3) := by decide +kernel
theorem d242_1343 : decode (xB 242) 1343 = .ok (.aload_n 2, 1) := by decide +kernel
theorem d242_1344 : decode (xB 242) 1344 = .ok (.aload_n 0, 1) := by decide +kernel
theorem d242_1345 : decode (xB 242) 1345 = .ok (.iload 4, 2) := by decide +kernel
theorem d242_1347 : decode (xB 242) 1347 = .ok (.iconst 1, 1) := by decide +kernel
theorem d242_1348 : decode (xB 242) 1348 = .ok (.iadd, 1) := by decide +kernel
theorem d242_1349 : decode (xB 242) 1349 = .ok (.iaload, 1) := by decide +kernel
theorem d242_1350 : decode (xB 242) 1350 = .ok (.invokevirtual 183, 3) := by decide +kernel
theorem d242_1353 : decode (xB 242) 1353 = .ok (.if_icmp .eq 242, 3) := by decide +kernel
theorem d242_1356 : decode (xB 242) 1356 = .ok (.iconst 0, 1) := by decide +kernel
theorem d242_1357 : decode (xB 242) 1357 = .ok (.ireturn, 1) := by decide +kernel
theorem d242_1358 : decode (xB 242) 1358 = .ok (.aload_n 1, 1) := by decide +kernel
theorem d242_1359 : decode (xB 242) 1359 = .ok (.aload_n 0, 1) := by decide +kernel
theorem d242_1360 : decode (xB 242) 1360 = .ok (.iload 4, 2) := by decide +kernel
theorem d242_1362 : decode (xB 242) 1362 = .ok (.iconst 1, 1) := by decide +kernel
theorem d242_1363 : decode (xB 242) 1363 = .ok (.iadd, 1) := by decide +kernel
theorem d242_1364 : decode (xB 242) 1364 = .ok (.iaload, 1) := by decide +kernel
theorem d242_1365 : decode (xB 242) 1365 = .ok (.invokevirtual 184, 3) := by decide +kernel
theorem d242_1368 : decode (xB 242) 1368 = .ok (.aload_n 2, 1) := by decide +kernel
theorem d242_1369 : decode (xB 242) 1369 = .ok (.aload_n 0, 1) := by decide +kernel
theorem d242_1370 : decode (xB 242) 1370 = .ok (.iload 4, 2) := by decide +kernel
theorem d242_1372 : decode (xB 242) 1372 = .ok (.iconst 1, 1) := by decide +kernel
theorem d242_1373 : decode (xB 242) 1373 = .ok (.iadd, 1) := by decide +kernel
theorem d242_1374 : decode (xB 242) 1374 = .ok (.iaload, 1) := by decide +kernel
theorem d242_1375 : decode (xB 242) 1375 = .ok (.invokevirtual 187, 3) := by decide +kernel
theorem d242_1378 : decode (xB 242) 1378 = .ok (.if_icmp .eq 217, 3) := by decide +kernel
theorem d242_1381 : decode (xB 242) 1381 = .ok (.iconst 0, 1) := by decide +kernel
theorem d242_1382 : decode (xB 242) 1382 = .ok (.ireturn, 1) := by decide +kernel
theorem d242_1383 : decode (xB 242) 1383 = .ok (.aload_n 1, 1) := by decide +kernel
theorem d242_1384 : decode (xB 242) 1384 = .ok (.aload_n 0, 1) := by decide +kernel
theorem d242_1385 : decode (xB 242) 1385 = .ok (.iload 4, 2) := by decide +kernel
theorem d242_1387 : decode (xB 242) 1387 = .ok (.iconst 1, 1) := by decide +kernel
theorem d242_1388 : decode (xB 242) 1388 = .ok (.iadd, 1) := by decide +kernel
theorem d242_1389 : decode (xB 242) 1389 = .ok (.iaload, 1) := by decide +kernel
theorem d242_1390 : decode (xB 242) 1390 = .ok (.aload_n 0, 1) := by decide +kernel
theorem d242_1391 : decode (xB 242) 1391 = .ok (.iload 4, 2) := by decide +kernel
theorem d242_1393 : decode (xB 242) 1393 = .ok (.iconst 2, 1) := by decide +kernel
theorem d242_1394 : decode (xB 242) 1394 = .ok (.iadd, 1) := by decide +kernel
theorem d242_1395 : decode (xB 242) 1395 = .ok (.iaload, 1) := by decide +kernel
theorem d242_1396 : decode (xB 242) 1396 = .ok (.aload_n 3, 1) := by decide +kernel
theorem d242_1397 : decode (xB 242) 1397 = .ok (.invokestatic 188, 3) := by decide +kernel
theorem d242_1400 : decode (xB 242) 1400 = .ok (.istore 5, 2) := by decide +kernel
theorem d242_1402 : decode (xB 242) 1402 = .ok (.aload_n 2, 1) := by decide +kernel
theorem d242_1403 : decode (xB 242) 1403 = .ok (.aload_n 0, 1) := by decide +kernel
theorem d242_1404 : decode (xB 242) 1404 = .ok (.iload 4, 2) := by decide +kernel
theorem d242_1406 : decode (xB 242) 1406 = .ok (.iconst 1, 1) := by decide +kernel
theorem d242_1407 : decode (xB 242) 1407 = .ok (.iadd, 1) := by decide +kernel
theorem d242_1408 : decode (xB 242) 1408 = .ok (.iaload, 1) := by decide +kernel
theorem d242_1409 : decode (xB 242) 1409 = .ok (.aload_n 0, 1) := by decide +kernel
theorem d242_1410 : decode (xB 242) 1410 = .ok (.iload 4, 2) := by decide +kernel
theorem d242_1412 : decode (xB 242) 1412 = .ok (.iconst 2, 1) := by decide +kernel
theorem d242_1413 : decode (xB 242) 1413 = .ok (.iadd, 1) := by decide +kernel
theorem d242_1414 : decode (xB 242) 1414 = .ok (.iaload, 1) := by decide +kernel
theorem d242_1415 : decode (xB 242) 1415 = .ok (.invokevirtual 190, 3) := by decide +kernel
theorem d242_1418 : decode (xB 242) 1418 = .ok (.istore 6, 2) := by decide +kernel
theorem d242_1420 : decode (xB 242) 1420 = .ok (.aload_n 2, 1) := by decide +kernel
theorem d242_1421 : decode (xB 242) 1421 = .ok (.invokevirtual 57, 3) := by decide +kernel
theorem d242_1424 : decode (xB 242) 1424 = .ok (.iload 5, 2) := by decide +kernel
theorem d242_1426 : decode (xB 242) 1426 = .ok (.if_icmp .eq 5, 3) := by decide +kernel
theorem d242_1429 : decode (xB 242) 1429 = .ok (.iconst 0, 1) := by decide +kernel
theorem d242_1430 : decode (xB 242) 1430 = .ok (.ireturn, 1) := by decide +kernel
theorem d242_1431 : decode (xB 242) 1431 = .ok (.iload 5, 2) := by decide +kernel
theorem d242_1433 : decode (xB 242) 1433 = .ok (.ifCond .ne 15, 3) := by decide +kernel
theorem d242_1436 : decode (xB 242) 1436 = .ok (.aload_n 3, 1) := by decide +kernel
theorem d242_1437 : decode (xB 242) 1437 = .ok (.iconst 0, 1) := by decide +kernel
theorem d242_1438 : decode (xB 242) 1438 = .ok (.laload, 1) := by decide +kernel
theorem d242_1439 : decode (xB 242) 1439 = .ok (.iload 6, 2) := by decide +kernel
theorem d242_1441 : decode (xB 242) 1441 = .ok (.i2l, 1) := by decide +kernel
theorem d242_1442 : decode (xB 242) 1442 = .ok (.lcmp, 1) := by decide +kernel
theorem d242_1443 : decode (xB 242) 1443 = .ok (.ifCond .eq 5, 3) := by decide +kernel
theorem d242_1446 : decode (xB 242) 1446 = .ok (.iconst 0, 1) := by decide +kernel
theorem d242_1447 : decode (xB 242) 1447 = .ok (.ireturn, 1) := by decide +kernel
theorem d242_1448 : decode (xB 242) 1448 = .ok (.goto 147, 3) := by decide +kernel
theorem d242_1451 : decode (xB 242) 1451 = .ok (.aload_n 1, 1) := by decide +kernel
theorem d242_1452 : decode (xB 242) 1452 = .ok (.invokevirtual 191, 3) := by decide +kernel
theorem d242_1455 : decode (xB 242) 1455 = .ok (.aload_n 2, 1) := by decide +kernel
theorem d242_1456 : decode (xB 242) 1456 = .ok (.invokevirtual 194, 3) := by decide +kernel
theorem d242_1459 : decode (xB 242) 1459 = .ok (.if_icmp .eq 136, 3) := by decide +kernel
theorem d242_1462 : decode (xB 242) 1462 = .ok (.iconst 0, 1) := by decide +kernel
theorem d242_1463 : decode (xB 242) 1463 = .ok (.ireturn, 1) := by decide +kernel
theorem d242_1464 : decode (xB 242) 1464 = .ok (.aload_n 1, 1) := by decide +kernel
theorem d242_1465 : decode (xB 242) 1465 = .ok (.aload_n 0, 1) := by decide +kernel
theorem d242_1466 : decode (xB 242) 1466 = .ok (.iload 4, 2) := by decide +kernel
theorem d242_1468 : decode (xB 242) 1468 = .ok (.iconst 1, 1) := by decide +kernel
theorem d242_1469 : decode (xB 242) 1469 = .ok (.iadd, 1) := by decide +kernel
theorem d242_1470 : decode (xB 242) 1470 = .ok (.iaload, 1) := by decide +kernel
theorem d242_1471 : decode (xB 242) 1471 = .ok (.invokevirtual 195, 3) := by decide +kernel
theorem d242_1474 : decode (xB 242) 1474 = .ok (.aload_n 2, 1) := by decide +kernel
theorem d242_1475 : decode (xB 242) 1475 = .ok (.aload_n 0, 1) := by decide +kernel
theorem d242_1476 : decode (xB 242) 1476 = .ok (.iload 4, 2) := by decide +kernel
theorem d242_1478 : decode (xB 242) 1478 = .ok (.iconst 1, 1) := by decide +kernel
theorem d242_1479 : decode (xB 242) 1479 = .ok (.iadd, 1) := by decide +kernel
theorem d242_1480 : decode (xB 242) 1480 = .ok (.iaload, 1) := by decide +kernel
theorem d242_1481 : decode (xB 242) 1481 = .ok (.invokevirtual 198, 3) := by decide +kernel
theorem d242_1484 : decode (xB 242) 1484 = .ok (.if_icmp .eq 111, 3) := by decide +kernel
theorem d242_1487 : decode (xB 242) 1487 = .ok (.iconst 0, 1) := by decide +kernel
theorem d242_1488 : decode (xB 242) 1488 = .ok (.ireturn, 1) := by decide +kernel
theorem d242_1489 : decode (xB 242) 1489 = .ok (.aload_n 1, 1) := by decide +kernel
theorem d242_1490 : decode (xB 242) 1490 = .ok (.aload_n 0, 1) := by decide +kernel
theorem d242_1491 : decode (xB 242) 1491 = .ok (.iload 4, 2) := by decide +kernel
theorem d242_1493 : decode (xB 242) 1493 = .ok (.iconst 1, 1) := by decide +kernel
theorem d242_1494 : decode (xB 242) 1494 = .ok (.iadd, 1) := by decide +kernel
theorem d242_1495 : decode (xB 242) 1495 = .ok (.iaload, 1) := by decide +kernel
theorem d242_1496 : decode (xB 242) 1496 = .ok (.invokevirtual 199, 3) := by decide +kernel
theorem d242_1499 : decode (xB 242) 1499 = .ok (.aload_n 2, 1) := by decide +kernel
theorem d242_1500 : decode (xB 242) 1500 = .ok (.aload_n 0, 1) := by decide +kernel
theorem d242_1501 : decode (xB 242) 1501 = .ok (.iload 4, 2) := by decide +kernel
theorem d242_1503 : decode (xB 242) 1503 = .ok (.iconst 1, 1) := by decide +kernel
theorem d242_1504 : decode (xB 242) 1504 = .ok (.iadd, 1) := by decide +kernel
theorem d242_1505 : decode (xB 242) 1505 = .ok (.iaload, 1) := by decide +kernel
theorem d242_1506 : decode (xB 242) 1506 = .ok (.invokevirtual 202, 3) := by decide +kernel
theorem d242_1509 : decode (xB 242) 1509 = .ok (.if_icmp .eq 86, 3) := by decide +kernel
theorem d242_1512 : decode (xB 242) 1512 = .ok (.iconst 0, 1) := by decide +kernel
theorem d242_1513 : decode (xB 242) 1513 = .ok (.ireturn, 1) := by decide +kernel
theorem d242_1514 : decode (xB 242) 1514 = .ok (.aload_n 1, 1) := by decide +kernel
theorem d242_1515 : decode (xB 242) 1515 = .ok (.aload_n 0, 1) := by decide +kernel
theorem d242_1516 : decode (xB 242) 1516 = .ok (.iload 4, 2) := by decide +kernel
theorem d242_1518 : decode (xB 242) 1518 = .ok (.iconst 1, 1) := by decide +kernel
theorem d242_1519 : decode (xB 242) 1519 = .ok (.iadd, 1) := by decide +kernel
theorem d242_1520 : decode (xB 242) 1520 = .ok (.iaload, 1) := by decide +kernel
theorem d242_1521 : decode (xB 242) 1521 = .ok (.invokevirtual 203, 3) := by decide +kernel
theorem d242_1524 : decode (xB 242) 1524 = .ok (.aload_n 2, 1) := by decide +kernel
theorem d242_1525 : decode (xB 242) 1525 = .ok (.aload_n 0, 1) := by decide +kernel
theorem d242_1526 : decode (xB 242) 1526 = .ok (.iload 4, 2) := by decide +kernel
theorem d242_1528 : decode (xB 242) 1528 = .ok (.iconst 1, 1) := by decide +kernel
theorem d242_1529 : decode (xB 242) 1529 = .ok (.iadd, 1) := by decide +kernel
theorem d242_1530 : decode (xB 242) 1530 = .ok (.iaload, 1) := by decide +kernel
theorem d242_1531 : decode (xB 242) 1531 = .ok (.invokevirtual 206, 3) := by decide +kernel
theorem d242_1534 : decode (xB 242) 1534 = .ok (.if_icmp .eq 61, 3) := by decide +kernel
theorem d242_1537 : decode (xB 242) 1537 = .ok (.iconst 0, 1) := by decide +kernel
theorem d242_1538 : decode (xB 242) 1538 = .ok (.ireturn, 1) := by decide +kernel
theorem d242_1539 : decode (xB 242) 1539 = .ok (.aload_n 1, 1) := by decide +kernel
theorem d242_1540 : decode (xB 242) 1540 = .ok (.aload_n 0, 1) := by decide +kernel
theorem d242_1541 : decode (xB 242) 1541 = .ok (.iload 4, 2) := by decide +kernel
theorem d242_1543 : decode (xB 242) 1543 = .ok (.iconst 1, 1) := by decide +kernel
theorem d242_1544 : decode (xB 242) 1544 = .ok (.iadd, 1) := by decide +kernel
theorem d242_1545 : decode (xB 242) 1545 = .ok (.iaload, 1) := by decide +kernel
theorem d242_1546 : decode (xB 242) 1546 = .ok (.aload_n 3, 1) := by decide +kernel
theorem d242_1547 : decode (xB 242) 1547 = .ok (.invokestatic 207, 3) := by decide +kernel
theorem d242_1550 : decode (xB 242) 1550 = .ok (.istore 5, 2) := by decide +kernel
theorem d242_1552 : decode (xB 242) 1552 = .ok (.aload_n 2, 1) := by decide +kernel
theorem d242_1553 : decode (xB 242) 1553 = .ok (.aload_n 0, 1) := by decide +kernel
theorem d242_1554 : decode (xB 242) 1554 = .ok (.iload 4, 2) := by decide +kernel
theorem d242_1556 : decode (xB 242) 1556 = .ok (.iconst 1, 1) := by decide +kernel
theorem d242_1557 : decode (xB 242) 1557 = .ok (.iadd, 1) := by decide +kernel
theorem d242_1558 : decode (xB 242) 1558 = .ok (.iaload, 1) := by decide +kernel
theorem d242_1559 : decode (xB 242) 1559 = .ok (.invokevirtual 210, 3) := by decide +kernel
theorem d242_1562 : decode (xB 242) 1562 = .ok (.istore 6, 2) := by decide +kernel
theorem d242_1564 : decode (xB 242) 1564 = .ok (.aload_n 2, 1) := by decide +kernel
theorem d242_1565 : decode (xB 242) 1565 = .ok (.invokevirtual 57, 3) := by decide +kernel
theorem d242_1568 : decode (xB 242) 1568 = .ok (.iload 5, 2) := by decide +kernel
theorem d242_1570 : decode (xB 242) 1570 = .ok (.if_icmp .eq 5, 3) := by decide +kernel
theorem d242_1573 : decode (xB 242) 1573 = .ok (.iconst 0, 1) := by decide +kernel
theorem d242_1574 : decode (xB 242) 1574 = .ok (.ireturn, 1) := by decide +kernel
theorem d242_1575 : decode (xB 242) 1575 = .ok (.iload 5, 2) := by decide +kernel
theorem d242_1577 : decode (xB 242) 1577 = .ok (.ifCond .ne 15, 3) := by decide +kernel
theorem d242_1580 : decode (xB 242) 1580 = .ok (.aload_n 3, 1) := by decide +kernel
theorem d242_1581 : decode (xB 242) 1581 = .ok (.iconst 0, 1) := by decide +kernel
theorem d242_1582 : decode (xB 242) 1582 = .ok (.laload, 1) := by decide +kernel
theorem d242_1583 : decode (xB 242) 1583 = .ok (.iload 6, 2) := by decide +kernel
theorem d242_1585 : decode (xB 242) 1585 = .ok (.i2l, 1) := by decide +kernel
theorem d242_1586 : decode (xB 242) 1586 = .ok (.lcmp, 1) := by decide +kernel
theorem d242_1587 : decode (xB 242) 1587 = .ok (.ifCond .eq 5, 3) := by decide +kernel
theorem d242_1590 : decode (xB 242) 1590 = .ok (.iconst 0, 1) := by decide +kernel
theorem d242_1591 : decode (xB 242) 1591 = .ok (.ireturn, 1) := by decide +kernel
theorem d242_1592 : decode (xB 242) 1592 = .ok (.goto 3, 3) := by decide +kernel
theorem d242_1595 : decode (xB 242) 1595 = .ok (.iinc 4 5, 3) := by decide +kernel
theorem d242_1598 : decode (xB 242) 1598 = .ok (.goto (-1575), 3) := by decide +kernel
theorem d242_1601 : decode (xB 242) 1601 = .ok (.iconst 1, 1) := by decide +kernel
theorem d242_1602 : decode (xB 242) 1602 = .ok (.ireturn, 1) := by decide +kernel
theorem lg_self (x : Int64) : lg_cmp x x = 0 := by simp [lg_cmp]
theorem lw_0 {n : Nat} {xs : Nat → Int32} {P : xPr} {Q : xQr} (hP : Cl 300 (some (n, xs)) 242 P Q) {i r B N R : Nat} {u : Nat × Nat} {v5 v6 : Value} {mem : Nat → Nat → Int32} (hi : i + 5 ≤ n) (hn : n ≤ 2560) (h : RRc mem N R B) (hB : B + 20000 < 60000000) (hu : u.1 + 1 ≤ 601024 ∧ u.2 + 6 ≤ 7293033)
    (k : ∀ r' mem' v5 v6 u', RR (B + 20000) mem' → u'.1 ≤ u.1 + 1 → u'.2 ≤ u.2 + 6 → P 1595 [.ref 100000, .ref 0, .ref 108, .ref 144, .int (nI i), v5, v6] [] u' (LAY, RFu r', mem')) : P 224 [.ref 100000, .ref 0, .ref 108, .ref 144, .int (nI i), v5, v6] [] u (LAY, RFu r, mem) := by
  have hB' : B + 20000 < 500000000 := by omega
  have hu0 : u.1 ≤ (xAl 242).1 ∧ u.2 ≤ (xAl 242).2 := ⟨by show u.1 ≤ 601024; omega, by show u.2 ≤ 7293033; omega⟩
  have a1 : vp_in (nI i + nI 1) n := vpx (by omega) (by omega)
  have a2 : vp_in (nI i + nI 2) n := vpx (by omega) (by omega)
  have a3 : vp_in (nI i + nI 3) n := vpx (by omega) (by omega)
  have a4 : vp_in (nI i + nI 4) n := vpx (by omega) (by omega)
  refine r_aload_n hP d242_224 rfl ?_
  refine r_aload_n hP d242_225 rfl ?_
  refine r_iload hP d242_226 rfl ?_
  refine r_iconst (v := nI 1) hP d242_228 rfl ?_
  refine r_iadd hP d242_229 ?_
  refine r_sld hP d242_230 a1 ?_
  refine r_callv (M' := 98) (As := [.int (xs (nI i + nI 1).toNatClampNeg)]) (S := []) hP d242_231 (by decide +kernel) (by decide +kernel) rfl (by simp [Value.category]) rfl ly_0 (by simp [Value.category]) hu0 (tk_sign (xs (nI i + nI 1).toNatClampNeg) N R B r mem _ h hB' (fun w m1 k2 => Bk.i ?_))
  refine r_aload_n hP d242_234 rfl ?_
  refine r_aload_n hP d242_235 rfl ?_
  refine r_iload hP d242_236 rfl ?_
  refine r_iconst (v := nI 1) hP d242_238 rfl ?_
  refine r_iadd hP d242_239 ?_
  refine r_sld hP d242_240 a1 ?_
  refine r_callv (M' := 165) (As := [.int (xs (nI i + nI 1).toNatClampNeg)]) (S := [.int w]) hP d242_241 (by decide +kernel) (by decide +kernel) rfl (by simp [Value.category]) rfl ly_108 (by simp [Value.category]) hu0 (k2 _ fun r2 mem2 h2 => Bk.i ?_)
  refine r_icmp (t := 1595) hP d242_244 (by decide) (fun _ => ?_) (fun z => absurd rfl z)
  exact k _ _ _ _ u h2 (Nat.le_succ _) (Nat.le_add_right _ _)
theorem lw_1 {n : Nat} {xs : Nat → Int32} {P : xPr} {Q : xQr} (hP : Cl 300 (some (n, xs)) 242 P Q) {i r B N R : Nat} {u : Nat × Nat} {v5 v6 : Value} {mem : Nat → Nat → Int32} (hi : i + 5 ≤ n) (hn : n ≤ 2560) (h : RRc mem N R B) (hB : B + 20000 < 60000000) (hu : u.1 + 1 ≤ 601024 ∧ u.2 + 6 ≤ 7293033)
    (k : ∀ r' mem' v5 v6 u', RR (B + 20000) mem' → u'.1 ≤ u.1 + 1 → u'.2 ≤ u.2 + 6 → P 1595 [.ref 100000, .ref 0, .ref 108, .ref 144, .int (nI i), v5, v6] [] u' (LAY, RFu r', mem')) : P 249 [.ref 100000, .ref 0, .ref 108, .ref 144, .int (nI i), v5, v6] [] u (LAY, RFu r, mem) := by
  have hB' : B + 20000 < 500000000 := by omega
  have hu0 : u.1 ≤ (xAl 242).1 ∧ u.2 ≤ (xAl 242).2 := ⟨by show u.1 ≤ 601024; omega, by show u.2 ≤ 7293033; omega⟩
  have a1 : vp_in (nI i + nI 1) n := vpx (by omega) (by omega)
  have a2 : vp_in (nI i + nI 2) n := vpx (by omega) (by omega)
  have a3 : vp_in (nI i + nI 3) n := vpx (by omega) (by omega)
  have a4 : vp_in (nI i + nI 4) n := vpx (by omega) (by omega)
  refine r_aload_n hP d242_249 rfl ?_
  refine r_aload_n hP d242_250 rfl ?_
  refine r_iload hP d242_251 rfl ?_
  refine r_iconst (v := nI 1) hP d242_253 rfl ?_
  refine r_iadd hP d242_254 ?_
  refine r_sld hP d242_255 a1 ?_
  refine r_callv (M' := 99) (As := [.int (xs (nI i + nI 1).toNatClampNeg)]) (S := []) hP d242_256 (by decide +kernel) (by decide +kernel) rfl (by simp [Value.category]) rfl ly_0 (by simp [Value.category]) hu0 (tk_end (xs (nI i + nI 1).toNatClampNeg) N R B r mem _ h hB' (fun w m1 k2 => Bk.i ?_))
  refine r_aload_n hP d242_259 rfl ?_
  refine r_aload_n hP d242_260 rfl ?_
  refine r_iload hP d242_261 rfl ?_
  refine r_iconst (v := nI 1) hP d242_263 rfl ?_
  refine r_iadd hP d242_264 ?_
  refine r_sld hP d242_265 a1 ?_
  refine r_callv (M' := 166) (As := [.int (xs (nI i + nI 1).toNatClampNeg)]) (S := [.int w]) hP d242_266 (by decide +kernel) (by decide +kernel) rfl (by simp [Value.category]) rfl ly_108 (by simp [Value.category]) hu0 (k2 _ fun r2 mem2 h2 => Bk.i ?_)
  refine r_icmp (t := 1595) hP d242_269 (by decide) (fun _ => ?_) (fun z => absurd rfl z)
  exact k _ _ _ _ u h2 (Nat.le_succ _) (Nat.le_add_right _ _)
theorem lw_2 {n : Nat} {xs : Nat → Int32} {P : xPr} {Q : xQr} (hP : Cl 300 (some (n, xs)) 242 P Q) {i r B N R : Nat} {u : Nat × Nat} {v5 v6 : Value} {mem : Nat → Nat → Int32} (hi : i + 5 ≤ n) (hn : n ≤ 2560) (h : RRc mem N R B) (hB : B + 20000 < 60000000) (hu : u.1 + 1 ≤ 601024 ∧ u.2 + 6 ≤ 7293033)
    (k : ∀ r' mem' v5 v6 u', RR (B + 20000) mem' → u'.1 ≤ u.1 + 1 → u'.2 ≤ u.2 + 6 → P 1595 [.ref 100000, .ref 0, .ref 108, .ref 144, .int (nI i), v5, v6] [] u' (LAY, RFu r', mem')) : P 274 [.ref 100000, .ref 0, .ref 108, .ref 144, .int (nI i), v5, v6] [] u (LAY, RFu r, mem) := by
  have hB' : B + 20000 < 500000000 := by omega
  have hu0 : u.1 ≤ (xAl 242).1 ∧ u.2 ≤ (xAl 242).2 := ⟨by show u.1 ≤ 601024; omega, by show u.2 ≤ 7293033; omega⟩
  have a1 : vp_in (nI i + nI 1) n := vpx (by omega) (by omega)
  have a2 : vp_in (nI i + nI 2) n := vpx (by omega) (by omega)
  have a3 : vp_in (nI i + nI 3) n := vpx (by omega) (by omega)
  have a4 : vp_in (nI i + nI 4) n := vpx (by omega) (by omega)
  refine r_aload_n hP d242_274 rfl ?_
  refine r_callv (M' := 100) (As := []) (S := []) hP d242_275 (by decide +kernel) (by decide +kernel) rfl (by simp) rfl ly_0 (by simp [Value.category]) hu0 (tk_town  N R B r mem _ h hB' (fun w m1 k2 => Bk.i ?_))
  refine r_aload_n hP d242_278 rfl ?_
  refine r_callv (M' := 173) (As := []) (S := [.int w]) hP d242_279 (by decide +kernel) (by decide +kernel) rfl (by simp) rfl ly_108 (by simp [Value.category]) hu0 (k2 _ fun r2 mem2 h2 => Bk.i ?_)
  refine r_icmp (t := 1595) hP d242_282 (by decide) (fun _ => ?_) (fun z => absurd rfl z)
  exact k _ _ _ _ u h2 (Nat.le_succ _) (Nat.le_add_right _ _)
theorem lw_3 {n : Nat} {xs : Nat → Int32} {P : xPr} {Q : xQr} (hP : Cl 300 (some (n, xs)) 242 P Q) {i r B N R : Nat} {u : Nat × Nat} {v5 v6 : Value} {mem : Nat → Nat → Int32} (hi : i + 5 ≤ n) (hn : n ≤ 2560) (h : RRc mem N R B) (hB : B + 20000 < 60000000) (hu : u.1 + 1 ≤ 601024 ∧ u.2 + 6 ≤ 7293033)
    (k : ∀ r' mem' v5 v6 u', RR (B + 20000) mem' → u'.1 ≤ u.1 + 1 → u'.2 ≤ u.2 + 6 → P 1595 [.ref 100000, .ref 0, .ref 108, .ref 144, .int (nI i), v5, v6] [] u' (LAY, RFu r', mem')) : P 287 [.ref 100000, .ref 0, .ref 108, .ref 144, .int (nI i), v5, v6] [] u (LAY, RFu r, mem) := by
  have hB' : B + 20000 < 500000000 := by omega
  have hu0 : u.1 ≤ (xAl 242).1 ∧ u.2 ≤ (xAl 242).2 := ⟨by show u.1 ≤ 601024; omega, by show u.2 ≤ 7293033; omega⟩
  have a1 : vp_in (nI i + nI 1) n := vpx (by omega) (by omega)
  have a2 : vp_in (nI i + nI 2) n := vpx (by omega) (by omega)
  have a3 : vp_in (nI i + nI 3) n := vpx (by omega) (by omega)
  have a4 : vp_in (nI i + nI 4) n := vpx (by omega) (by omega)
  refine r_aload_n hP d242_287 rfl ?_
  refine r_aload_n hP d242_288 rfl ?_
  refine r_iload hP d242_289 rfl ?_
  refine r_iconst (v := nI 1) hP d242_291 rfl ?_
  refine r_iadd hP d242_292 ?_
  refine r_sld hP d242_293 a1 ?_
  refine r_callv (M' := 101) (As := [.int (xs (nI i + nI 1).toNatClampNeg)]) (S := []) hP d242_294 (by decide +kernel) (by decide +kernel) rfl (by simp [Value.category]) rfl ly_0 (by simp [Value.category]) hu0 (tk_plan (xs (nI i + nI 1).toNatClampNeg) N R B r mem _ h hB' (fun w m1 k2 => Bk.i ?_))
  refine r_aload_n hP d242_297 rfl ?_
  refine r_aload_n hP d242_298 rfl ?_
  refine r_iload hP d242_299 rfl ?_
  refine r_iconst (v := nI 1) hP d242_301 rfl ?_
  refine r_iadd hP d242_302 ?_
  refine r_sld hP d242_303 a1 ?_
  refine r_callv (M' := 174) (As := [.int (xs (nI i + nI 1).toNatClampNeg)]) (S := [.int w]) hP d242_304 (by decide +kernel) (by decide +kernel) rfl (by simp [Value.category]) rfl ly_108 (by simp [Value.category]) hu0 (k2 _ fun r2 mem2 h2 => Bk.i ?_)
  refine r_icmp (t := 1595) hP d242_307 (by decide) (fun _ => ?_) (fun z => absurd rfl z)
  exact k _ _ _ _ u h2 (Nat.le_succ _) (Nat.le_add_right _ _)
theorem lw_4 {n : Nat} {xs : Nat → Int32} {P : xPr} {Q : xQr} (hP : Cl 300 (some (n, xs)) 242 P Q) {i r B N R : Nat} {u : Nat × Nat} {v5 v6 : Value} {mem : Nat → Nat → Int32} (hi : i + 5 ≤ n) (hn : n ≤ 2560) (h : RRc mem N R B) (hB : B + 20000 < 60000000) (hu : u.1 + 1 ≤ 601024 ∧ u.2 + 6 ≤ 7293033)
    (k : ∀ r' mem' v5 v6 u', RR (B + 20000) mem' → u'.1 ≤ u.1 + 1 → u'.2 ≤ u.2 + 6 → P 1595 [.ref 100000, .ref 0, .ref 108, .ref 144, .int (nI i), v5, v6] [] u' (LAY, RFu r', mem')) : P 312 [.ref 100000, .ref 0, .ref 108, .ref 144, .int (nI i), v5, v6] [] u (LAY, RFu r, mem) := by
  have hB' : B + 20000 < 500000000 := by omega
  have hu0 : u.1 ≤ (xAl 242).1 ∧ u.2 ≤ (xAl 242).2 := ⟨by show u.1 ≤ 601024; omega, by show u.2 ≤ 7293033; omega⟩
  have a1 : vp_in (nI i + nI 1) n := vpx (by omega) (by omega)
  have a2 : vp_in (nI i + nI 2) n := vpx (by omega) (by omega)
  have a3 : vp_in (nI i + nI 3) n := vpx (by omega) (by omega)
  have a4 : vp_in (nI i + nI 4) n := vpx (by omega) (by omega)
  refine r_aload_n hP d242_312 rfl ?_
  refine r_aload_n hP d242_313 rfl ?_
  refine r_iload hP d242_314 rfl ?_
  refine r_iconst (v := nI 1) hP d242_316 rfl ?_
  refine r_iadd hP d242_317 ?_
  refine r_sld hP d242_318 a1 ?_
  refine r_callv (M' := 102) (As := [.int (xs (nI i + nI 1).toNatClampNeg)]) (S := []) hP d242_319 (by decide +kernel) (by decide +kernel) rfl (by simp [Value.category]) rfl ly_0 (by simp [Value.category]) hu0 (tk_rule (xs (nI i + nI 1).toNatClampNeg) N R B r mem _ h hB' (fun w m1 k2 => Bk.i ?_))
  refine r_aload_n hP d242_322 rfl ?_
  refine r_aload_n hP d242_323 rfl ?_
  refine r_iload hP d242_324 rfl ?_
  refine r_iconst (v := nI 1) hP d242_326 rfl ?_
  refine r_iadd hP d242_327 ?_
  refine r_sld hP d242_328 a1 ?_
  refine r_callv (M' := 180) (As := [.int (xs (nI i + nI 1).toNatClampNeg)]) (S := [.int w]) hP d242_329 (by decide +kernel) (by decide +kernel) rfl (by simp [Value.category]) rfl ly_108 (by simp [Value.category]) hu0 (k2 _ fun r2 mem2 h2 => Bk.i ?_)
  refine r_icmp (t := 1595) hP d242_332 (by decide) (fun _ => ?_) (fun z => absurd rfl z)
  exact k _ _ _ _ u h2 (Nat.le_succ _) (Nat.le_add_right _ _)
theorem lw_5 {n : Nat} {xs : Nat → Int32} {P : xPr} {Q : xQr} (hP : Cl 300 (some (n, xs)) 242 P Q) {i r B N R : Nat} {u : Nat × Nat} {v5 v6 : Value} {mem : Nat → Nat → Int32} (hi : i + 5 ≤ n) (hn : n ≤ 2560) (h : RRc mem N R B) (hB : B + 20000 < 60000000) (hu : u.1 + 1 ≤ 601024 ∧ u.2 + 6 ≤ 7293033)
    (k : ∀ r' mem' v5 v6 u', RR (B + 20000) mem' → u'.1 ≤ u.1 + 1 → u'.2 ≤ u.2 + 6 → P 1595 [.ref 100000, .ref 0, .ref 108, .ref 144, .int (nI i), v5, v6] [] u' (LAY, RFu r', mem')) : P 337 [.ref 100000, .ref 0, .ref 108, .ref 144, .int (nI i), v5, v6] [] u (LAY, RFu r, mem) := by
  have hB' : B + 20000 < 500000000 := by omega
  have hu0 : u.1 ≤ (xAl 242).1 ∧ u.2 ≤ (xAl 242).2 := ⟨by show u.1 ≤ 601024; omega, by show u.2 ≤ 7293033; omega⟩
  have a1 : vp_in (nI i + nI 1) n := vpx (by omega) (by omega)
  have a2 : vp_in (nI i + nI 2) n := vpx (by omega) (by omega)
  have a3 : vp_in (nI i + nI 3) n := vpx (by omega) (by omega)
  have a4 : vp_in (nI i + nI 4) n := vpx (by omega) (by omega)
  refine r_aload_n hP d242_337 rfl ?_
  refine r_aload_n hP d242_338 rfl ?_
  refine r_iload hP d242_339 rfl ?_
  refine r_iconst (v := nI 1) hP d242_341 rfl ?_
  refine r_iadd hP d242_342 ?_
  refine r_sld hP d242_343 a1 ?_
  refine r_aload_n hP d242_344 rfl ?_
  refine r_iload hP d242_345 rfl ?_
  refine r_iconst (v := nI 2) hP d242_347 rfl ?_
  refine r_iadd hP d242_348 ?_
  refine r_sld hP d242_349 a2 ?_
  refine r_aload_n hP d242_350 rfl ?_
  have hc : xCallOK 242 238 [.ref 100000, .ref 0, .ref 108, .ref 144, .int (nI i), v5, v6] [] u (LAY, RFu r, mem) := ⟨rfl, by decide, by decide, by show u.1 + 1 ≤ 601024; omega, by show u.2 + 6 ≤ 7293033; omega, fun q => by cases q⟩
  have hu1 : (u.1 + 1, u.2 + 6).1 ≤ (xAl 242).1 ∧ (u.1 + 1, u.2 + 6).2 ≤ (xAl 242).2 := ⟨by show u.1 + 1 ≤ 601024; omega, by show u.2 + 6 ≤ 7293033; omega⟩
  refine hP.i d242_351 ⟨rfl, Or.inl ⟨238, [.ref 0, .int (xs (nI i + nI 1).toNatClampNeg), .int (xs (nI i + nI 2).toNatClampNeg), .ref 144], [], by decide +kernel, rfl, by simp [Value.category], rfl, hc, Or.inr ⟨104, 0, [(xs (nI i + nI 1).toNatClampNeg), (xs (nI i + nI 2).toNatClampNeg)], 144, 1, 17, rfl, rfl, rfl, ly_0, ly_144, by decide, tk_of (xs (nI i + nI 1).toNatClampNeg) (xs (nI i + nI 2).toNatClampNeg) N R B r mem _ h hB' (fun m1 k2 => Or.inl ⟨rfl, (fun q => by cases q), ?_⟩) (fun w m1 k2 => Or.inr ⟨w, rfl, (fun q => by cases q), ?_⟩)⟩⟩⟩
  · show P 354 [.ref 100000, .ref 0, .ref 108, .ref 144, .int (nI i), v5, v6] [.int 1] (u.1 + 1, u.2 + 6) (LAY, RFu r, m1)
    refine r_istore (L' := [.ref 100000, .ref 0, .ref 108, .ref 144, .int (nI i), .int 1, v6]) hP d242_354 (Nat.le_of_ble_eq_true rfl) rfl ?_
    refine r_aload_n hP d242_356 rfl ?_
    refine r_aload_n hP d242_357 rfl ?_
    refine r_iload hP d242_358 rfl ?_
    refine r_iconst (v := nI 1) hP d242_360 rfl ?_
    refine r_iadd hP d242_361 ?_
    refine r_sld hP d242_362 a1 ?_
    refine r_aload_n hP d242_363 rfl ?_
    refine r_iload hP d242_364 rfl ?_
    refine r_iconst (v := nI 2) hP d242_366 rfl ?_
    refine r_iadd hP d242_367 ?_
    refine r_sld hP d242_368 a2 ?_
    refine r_callv (M' := 182) (As := [.int (xs (nI i + nI 1).toNatClampNeg), .int (xs (nI i + nI 2).toNatClampNeg)]) (S := []) hP d242_369 (by decide +kernel) (by decide +kernel) rfl (by simp [Value.category]) rfl ly_108 (by simp [Value.category]) hu1 (k2 _ fun r2 mem2 w h2 e20 => Bk.i ?_)
    refine r_istore (L' := [.ref 100000, .ref 0, .ref 108, .ref 144, .int (nI i), .int 1, .int w]) hP d242_372 (Nat.le_of_ble_eq_true rfl) rfl ?_
    refine r_aload_n hP d242_374 rfl ?_
    refine r_callv (M' := 157) (As := []) (S := []) hP d242_375 (by decide +kernel) (by decide +kernel) rfl (by simp) rfl ly_108 (by simp [Value.category]) hu1 (c_in rfl rfl rfl fun P2 hP2 => b157_0 hP2 (Bk.i ?_))
    rw [e20]
    refine r_iload hP d242_378 rfl ?_
    refine r_icmp (t := 385) hP d242_380 (by decide) (fun _ => ?_) (fun z => absurd (show nI 1 = 1 by decide) z)
    refine r_iload hP d242_385 rfl ?_
    refine r_if (t := 402) hP d242_387 (by decide) (fun _ => ?_) (fun z => absurd (show ¬ (1 : Int32) = 0 by decide) z)
    refine r_goto (t := 1595) hP d242_402 (by decide) ?_
    exact k _ _ _ _ (u.1 + 1, u.2 + 6) h2 (Nat.le_refl _) (Nat.le_refl _)
  · show P 354 [.ref 100000, .ref 0, .ref 108, .ref 144, .int (nI i), v5, v6] [.int 0] (u.1 + 1, u.2 + 6) (LAY, RFu r, xu2 m1 144 0 w)
    refine r_istore (L' := [.ref 100000, .ref 0, .ref 108, .ref 144, .int (nI i), .int 0, v6]) hP d242_354 (Nat.le_of_ble_eq_true rfl) rfl ?_
    refine r_aload_n hP d242_356 rfl ?_
    refine r_aload_n hP d242_357 rfl ?_
    refine r_iload hP d242_358 rfl ?_
    refine r_iconst (v := nI 1) hP d242_360 rfl ?_
    refine r_iadd hP d242_361 ?_
    refine r_sld hP d242_362 a1 ?_
    refine r_aload_n hP d242_363 rfl ?_
    refine r_iload hP d242_364 rfl ?_
    refine r_iconst (v := nI 2) hP d242_366 rfl ?_
    refine r_iadd hP d242_367 ?_
    refine r_sld hP d242_368 a2 ?_
    refine r_callv (M' := 182) (As := [.int (xs (nI i + nI 1).toNatClampNeg), .int (xs (nI i + nI 2).toNatClampNeg)]) (S := []) hP d242_369 (by decide +kernel) (by decide +kernel) rfl (by simp [Value.category]) rfl ly_108 (by simp [Value.category]) hu1 (k2 _ fun r2 mem2 h2 e20 e144 => Bk.i ?_)
    refine r_istore (L' := [.ref 100000, .ref 0, .ref 108, .ref 144, .int (nI i), .int 0, .int w]) hP d242_372 (Nat.le_of_ble_eq_true rfl) rfl ?_
    refine r_aload_n hP d242_374 rfl ?_
    refine r_callv (M' := 157) (As := []) (S := []) hP d242_375 (by decide +kernel) (by decide +kernel) rfl (by simp) rfl ly_108 (by simp [Value.category]) hu1 (c_in rfl rfl rfl fun P2 hP2 => b157_0 hP2 (Bk.i ?_))
    rw [e20]
    refine r_iload hP d242_378 rfl ?_
    refine r_icmp (t := 385) hP d242_380 (by decide) (fun _ => ?_) (fun z => absurd (show nI 0 = 0 by decide) z)
    refine r_iload hP d242_385 rfl ?_
    refine r_if (t := 402) hP d242_387 (by decide) (fun z => absurd (rfl : (0 : Int32) = 0) z) (fun _ => ?_)
    refine r_aload_n hP d242_390 rfl ?_
    refine r_iconst (v := nI 0) hP d242_391 rfl ?_
    refine r_laload hP d242_392 ly_144 (vpn (a := 0) (by decide) (by decide)) ?_
    rw [show mem2 144 (nI 0).toNatClampNeg = w from e144]
    refine r_iload hP d242_393 rfl ?_
    refine r_i2l hP d242_395 ?_
    refine r_lcmp hP d242_396 ?_
    refine r_if (t := 402) hP d242_397 (by decide) (fun _ => ?_) (fun z => absurd (lg_self _) z)
    refine r_goto (t := 1595) hP d242_402 (by decide) ?_
    exact k _ _ _ _ (u.1 + 1, u.2 + 6) h2 (Nat.le_refl _) (Nat.le_refl _)
theorem lw_6 {n : Nat} {xs : Nat → Int32} {P : xPr} {Q : xQr} (hP : Cl 300 (some (n, xs)) 242 P Q) {i r B N R : Nat} {u : Nat × Nat} {v5 v6 : Value} {mem : Nat → Nat → Int32} (hi : i + 5 ≤ n) (hn : n ≤ 2560) (h : RRc mem N R B) (hB : B + 20000 < 60000000) (hu : u.1 + 1 ≤ 601024 ∧ u.2 + 6 ≤ 7293033)
    (k : ∀ r' mem' v5 v6 u', RR (B + 20000) mem' → u'.1 ≤ u.1 + 1 → u'.2 ≤ u.2 + 6 → P 1595 [.ref 100000, .ref 0, .ref 108, .ref 144, .int (nI i), v5, v6] [] u' (LAY, RFu r', mem')) : P 405 [.ref 100000, .ref 0, .ref 108, .ref 144, .int (nI i), v5, v6] [] u (LAY, RFu r, mem) := by
  have hB' : B + 20000 < 500000000 := by omega
  have hu0 : u.1 ≤ (xAl 242).1 ∧ u.2 ≤ (xAl 242).2 := ⟨by show u.1 ≤ 601024; omega, by show u.2 ≤ 7293033; omega⟩
  have a1 : vp_in (nI i + nI 1) n := vpx (by omega) (by omega)
  have a2 : vp_in (nI i + nI 2) n := vpx (by omega) (by omega)
  have a3 : vp_in (nI i + nI 3) n := vpx (by omega) (by omega)
  have a4 : vp_in (nI i + nI 4) n := vpx (by omega) (by omega)
  refine r_aload_n hP d242_405 rfl ?_
  refine r_aload_n hP d242_406 rfl ?_
  refine r_iload hP d242_407 rfl ?_
  refine r_iconst (v := nI 1) hP d242_409 rfl ?_
  refine r_iadd hP d242_410 ?_
  refine r_sld hP d242_411 a1 ?_
  refine r_aload_n hP d242_412 rfl ?_
  refine r_iload hP d242_413 rfl ?_
  refine r_iconst (v := nI 2) hP d242_415 rfl ?_
  refine r_iadd hP d242_416 ?_
  refine r_sld hP d242_417 a2 ?_
  refine r_callv (M' := 105) (As := [.int (xs (nI i + nI 1).toNatClampNeg), .int (xs (nI i + nI 2).toNatClampNeg)]) (S := []) hP d242_418 (by decide +kernel) (by decide +kernel) rfl (by simp [Value.category]) rfl ly_0 (by simp [Value.category]) hu0 (tk_chairs (xs (nI i + nI 1).toNatClampNeg) (xs (nI i + nI 2).toNatClampNeg) N R B r mem _ h hB' (fun w m1 k2 => Bk.i ?_))
  refine r_aload_n hP d242_421 rfl ?_
  refine r_aload_n hP d242_422 rfl ?_
  refine r_iload hP d242_423 rfl ?_
  refine r_iconst (v := nI 1) hP d242_425 rfl ?_
  refine r_iadd hP d242_426 ?_
  refine r_sld hP d242_427 a1 ?_
  refine r_aload_n hP d242_428 rfl ?_
  refine r_iload hP d242_429 rfl ?_
  refine r_iconst (v := nI 2) hP d242_431 rfl ?_
  refine r_iadd hP d242_432 ?_
  refine r_sld hP d242_433 a2 ?_
  refine r_callv (M' := 183) (As := [.int (xs (nI i + nI 1).toNatClampNeg), .int (xs (nI i + nI 2).toNatClampNeg)]) (S := [.int w]) hP d242_434 (by decide +kernel) (by decide +kernel) rfl (by simp [Value.category]) rfl ly_108 (by simp [Value.category]) hu0 (k2 _ fun r2 mem2 h2 => Bk.i ?_)
  refine r_icmp (t := 1595) hP d242_437 (by decide) (fun _ => ?_) (fun z => absurd rfl z)
  exact k _ _ _ _ u h2 (Nat.le_succ _) (Nat.le_add_right _ _)
theorem lw_7 {n : Nat} {xs : Nat → Int32} {P : xPr} {Q : xQr} (hP : Cl 300 (some (n, xs)) 242 P Q) {i r B N R : Nat} {u : Nat × Nat} {v5 v6 : Value} {mem : Nat → Nat → Int32} (hi : i + 5 ≤ n) (hn : n ≤ 2560) (h : RRc mem N R B) (hB : B + 20000 < 60000000) (hu : u.1 + 1 ≤ 601024 ∧ u.2 + 6 ≤ 7293033)
    (k : ∀ r' mem' v5 v6 u', RR (B + 20000) mem' → u'.1 ≤ u.1 + 1 → u'.2 ≤ u.2 + 6 → P 1595 [.ref 100000, .ref 0, .ref 108, .ref 144, .int (nI i), v5, v6] [] u' (LAY, RFu r', mem')) : P 442 [.ref 100000, .ref 0, .ref 108, .ref 144, .int (nI i), v5, v6] [] u (LAY, RFu r, mem) := by
  have hB' : B + 20000 < 500000000 := by omega
  have hu0 : u.1 ≤ (xAl 242).1 ∧ u.2 ≤ (xAl 242).2 := ⟨by show u.1 ≤ 601024; omega, by show u.2 ≤ 7293033; omega⟩
  have a1 : vp_in (nI i + nI 1) n := vpx (by omega) (by omega)
  have a2 : vp_in (nI i + nI 2) n := vpx (by omega) (by omega)
  have a3 : vp_in (nI i + nI 3) n := vpx (by omega) (by omega)
  have a4 : vp_in (nI i + nI 4) n := vpx (by omega) (by omega)
  by_cases hz : xs (nI i + nI 2).toNatClampNeg = 0
  · refine r_aload_n hP d242_442 rfl ?_
    refine r_aload_n hP d242_443 rfl ?_
    refine r_iload hP d242_444 rfl ?_
    refine r_iconst (v := nI 1) hP d242_446 rfl ?_
    refine r_iadd hP d242_447 ?_
    refine r_sld hP d242_448 a1 ?_
    refine r_aload_n hP d242_449 rfl ?_
    refine r_iload hP d242_450 rfl ?_
    refine r_iconst (v := nI 2) hP d242_452 rfl ?_
    refine r_iadd hP d242_453 ?_
    refine r_sld hP d242_454 a2 ?_
    refine r_if (t := 462) hP d242_455 (by decide) (fun _ => ?_) (fun z => absurd hz z)
    refine r_iconst (v := nI 0) hP d242_462 rfl ?_
    refine r_callv (M' := 106) (As := [.int (xs (nI i + nI 1).toNatClampNeg), .int (nI 0)]) (S := []) hP d242_463 (by decide +kernel) (by decide +kernel) rfl (by simp [Value.category]) rfl ly_0 (by simp [Value.category]) hu0 (tk_sick (xs (nI i + nI 1).toNatClampNeg) (y := (nI 0)) (Or.inl (by decide)) N R B r mem _ h hB' (fun w m1 k2 => Bk.i ?_))
    refine r_aload_n hP d242_466 rfl ?_
    refine r_aload_n hP d242_467 rfl ?_
    refine r_iload hP d242_468 rfl ?_
    refine r_iconst (v := nI 1) hP d242_470 rfl ?_
    refine r_iadd hP d242_471 ?_
    refine r_sld hP d242_472 a1 ?_
    refine r_aload_n hP d242_473 rfl ?_
    refine r_iload hP d242_474 rfl ?_
    refine r_iconst (v := nI 2) hP d242_476 rfl ?_
    refine r_iadd hP d242_477 ?_
    refine r_sld hP d242_478 a2 ?_
    refine r_if (t := 486) hP d242_479 (by decide) (fun _ => ?_) (fun z => absurd hz z)
    refine r_iconst (v := nI 0) hP d242_486 rfl ?_
    refine r_callv (M' := 184) (As := [.int (xs (nI i + nI 1).toNatClampNeg), .int (nI 0)]) (S := [.int w]) hP d242_487 (by decide +kernel) (by decide +kernel) rfl (by simp [Value.category]) rfl ly_108 (by simp [Value.category]) hu0 (k2 _ fun r2 mem2 h2 => Bk.i ?_)
    refine r_icmp (t := 1595) hP d242_490 (by decide) (fun _ => ?_) (fun z => absurd rfl z)
    exact k _ _ _ _ u h2 (Nat.le_succ _) (Nat.le_add_right _ _)
  · refine r_aload_n hP d242_442 rfl ?_
    refine r_aload_n hP d242_443 rfl ?_
    refine r_iload hP d242_444 rfl ?_
    refine r_iconst (v := nI 1) hP d242_446 rfl ?_
    refine r_iadd hP d242_447 ?_
    refine r_sld hP d242_448 a1 ?_
    refine r_aload_n hP d242_449 rfl ?_
    refine r_iload hP d242_450 rfl ?_
    refine r_iconst (v := nI 2) hP d242_452 rfl ?_
    refine r_iadd hP d242_453 ?_
    refine r_sld hP d242_454 a2 ?_
    refine r_if (t := 462) hP d242_455 (by decide) (fun z => absurd z hz) (fun _ => ?_)
    refine r_iconst (v := nI 1) hP d242_458 rfl ?_
    refine r_goto (t := 463) hP d242_459 (by decide) ?_
    refine r_callv (M' := 106) (As := [.int (xs (nI i + nI 1).toNatClampNeg), .int (nI 1)]) (S := []) hP d242_463 (by decide +kernel) (by decide +kernel) rfl (by simp [Value.category]) rfl ly_0 (by simp [Value.category]) hu0 (tk_sick (xs (nI i + nI 1).toNatClampNeg) (y := (nI 1)) (Or.inr (by decide)) N R B r mem _ h hB' (fun w m1 k2 => Bk.i ?_))
    refine r_aload_n hP d242_466 rfl ?_
    refine r_aload_n hP d242_467 rfl ?_
    refine r_iload hP d242_468 rfl ?_
    refine r_iconst (v := nI 1) hP d242_470 rfl ?_
    refine r_iadd hP d242_471 ?_
    refine r_sld hP d242_472 a1 ?_
    refine r_aload_n hP d242_473 rfl ?_
    refine r_iload hP d242_474 rfl ?_
    refine r_iconst (v := nI 2) hP d242_476 rfl ?_
    refine r_iadd hP d242_477 ?_
    refine r_sld hP d242_478 a2 ?_
    refine r_if (t := 486) hP d242_479 (by decide) (fun z => absurd z hz) (fun _ => ?_)
    refine r_iconst (v := nI 1) hP d242_482 rfl ?_
    refine r_goto (t := 487) hP d242_483 (by decide) ?_
    refine r_callv (M' := 184) (As := [.int (xs (nI i + nI 1).toNatClampNeg), .int (nI 1)]) (S := [.int w]) hP d242_487 (by decide +kernel) (by decide +kernel) rfl (by simp [Value.category]) rfl ly_108 (by simp [Value.category]) hu0 (k2 _ fun r2 mem2 h2 => Bk.i ?_)
    refine r_icmp (t := 1595) hP d242_490 (by decide) (fun _ => ?_) (fun z => absurd rfl z)
    exact k _ _ _ _ u h2 (Nat.le_succ _) (Nat.le_add_right _ _)
theorem lw_8 {n : Nat} {xs : Nat → Int32} {P : xPr} {Q : xQr} (hP : Cl 300 (some (n, xs)) 242 P Q) {i r B N R : Nat} {u : Nat × Nat} {v5 v6 : Value} {mem : Nat → Nat → Int32} (hi : i + 5 ≤ n) (hn : n ≤ 2560) (h : RRc mem N R B) (hB : B + 20000 < 60000000) (hu : u.1 + 1 ≤ 601024 ∧ u.2 + 6 ≤ 7293033)
    (k : ∀ r' mem' v5 v6 u', RR (B + 20000) mem' → u'.1 ≤ u.1 + 1 → u'.2 ≤ u.2 + 6 → P 1595 [.ref 100000, .ref 0, .ref 108, .ref 144, .int (nI i), v5, v6] [] u' (LAY, RFu r', mem')) : P 495 [.ref 100000, .ref 0, .ref 108, .ref 144, .int (nI i), v5, v6] [] u (LAY, RFu r, mem) := by
  have hB' : B + 20000 < 500000000 := by omega
  have hu0 : u.1 ≤ (xAl 242).1 ∧ u.2 ≤ (xAl 242).2 := ⟨by show u.1 ≤ 601024; omega, by show u.2 ≤ 7293033; omega⟩
  have a1 : vp_in (nI i + nI 1) n := vpx (by omega) (by omega)
  have a2 : vp_in (nI i + nI 2) n := vpx (by omega) (by omega)
  have a3 : vp_in (nI i + nI 3) n := vpx (by omega) (by omega)
  have a4 : vp_in (nI i + nI 4) n := vpx (by omega) (by omega)
  refine r_aload_n hP d242_495 rfl ?_
  refine r_aload_n hP d242_496 rfl ?_
  refine r_iload hP d242_497 rfl ?_
  refine r_iconst (v := nI 1) hP d242_499 rfl ?_
  refine r_iadd hP d242_500 ?_
  refine r_sld hP d242_501 a1 ?_
  refine r_aload_n hP d242_502 rfl ?_
  refine r_iload hP d242_503 rfl ?_
  refine r_iconst (v := nI 2) hP d242_505 rfl ?_
  refine r_iadd hP d242_506 ?_
  refine r_sld hP d242_507 a2 ?_
  refine r_aload_n hP d242_508 rfl ?_
  refine r_iload hP d242_509 rfl ?_
  refine r_iconst (v := nI 3) hP d242_511 rfl ?_
  refine r_iadd hP d242_512 ?_
  refine r_sld hP d242_513 a3 ?_
  refine r_aload_n hP d242_514 rfl ?_
  refine r_iload hP d242_515 rfl ?_
  refine r_iconst (v := nI 4) hP d242_517 rfl ?_
  refine r_iadd hP d242_518 ?_
  refine r_sld hP d242_519 a4 ?_
  refine r_callv (M' := 107) (As := [.int (xs (nI i + nI 1).toNatClampNeg), .int (xs (nI i + nI 2).toNatClampNeg), .int (xs (nI i + nI 3).toNatClampNeg), .int (xs (nI i + nI 4).toNatClampNeg)]) (S := []) hP d242_520 (by decide +kernel) (by decide +kernel) rfl (by simp [Value.category]) rfl ly_0 (by simp [Value.category]) hu0 (tk_sheet (xs (nI i + nI 1).toNatClampNeg) (xs (nI i + nI 2).toNatClampNeg) (xs (nI i + nI 3).toNatClampNeg) (xs (nI i + nI 4).toNatClampNeg) N R B r mem _ h hB' (fun w m1 k2 => Bk.i ?_))
  refine r_aload_n hP d242_523 rfl ?_
  refine r_aload_n hP d242_524 rfl ?_
  refine r_iload hP d242_525 rfl ?_
  refine r_iconst (v := nI 1) hP d242_527 rfl ?_
  refine r_iadd hP d242_528 ?_
  refine r_sld hP d242_529 a1 ?_
  refine r_aload_n hP d242_530 rfl ?_
  refine r_iload hP d242_531 rfl ?_
  refine r_iconst (v := nI 2) hP d242_533 rfl ?_
  refine r_iadd hP d242_534 ?_
  refine r_sld hP d242_535 a2 ?_
  refine r_aload_n hP d242_536 rfl ?_
  refine r_iload hP d242_537 rfl ?_
  refine r_iconst (v := nI 3) hP d242_539 rfl ?_
  refine r_iadd hP d242_540 ?_
  refine r_sld hP d242_541 a3 ?_
  refine r_aload_n hP d242_542 rfl ?_
  refine r_iload hP d242_543 rfl ?_
  refine r_iconst (v := nI 4) hP d242_545 rfl ?_
  refine r_iadd hP d242_546 ?_
  refine r_sld hP d242_547 a4 ?_
  refine r_callv (M' := 185) (As := [.int (xs (nI i + nI 1).toNatClampNeg), .int (xs (nI i + nI 2).toNatClampNeg), .int (xs (nI i + nI 3).toNatClampNeg), .int (xs (nI i + nI 4).toNatClampNeg)]) (S := [.int w]) hP d242_548 (by decide +kernel) (by decide +kernel) rfl (by simp [Value.category]) rfl ly_108 (by simp [Value.category]) hu0 (k2 _ fun r2 mem2 h2 => Bk.i ?_)
  refine r_icmp (t := 1595) hP d242_551 (by decide) (fun _ => ?_) (fun z => absurd rfl z)
  exact k _ _ _ _ u h2 (Nat.le_succ _) (Nat.le_add_right _ _)
theorem lw_9 {n : Nat} {xs : Nat → Int32} {P : xPr} {Q : xQr} (hP : Cl 300 (some (n, xs)) 242 P Q) {i r B N R : Nat} {u : Nat × Nat} {v5 v6 : Value} {mem : Nat → Nat → Int32} (hi : i + 5 ≤ n) (hn : n ≤ 2560) (h : RRc mem N R B) (hB : B + 20000 < 60000000) (hu : u.1 + 1 ≤ 601024 ∧ u.2 + 6 ≤ 7293033)
    (k : ∀ r' mem' v5 v6 u', RR (B + 20000) mem' → u'.1 ≤ u.1 + 1 → u'.2 ≤ u.2 + 6 → P 1595 [.ref 100000, .ref 0, .ref 108, .ref 144, .int (nI i), v5, v6] [] u' (LAY, RFu r', mem')) : P 556 [.ref 100000, .ref 0, .ref 108, .ref 144, .int (nI i), v5, v6] [] u (LAY, RFu r, mem) := by
  have hB' : B + 20000 < 500000000 := by omega
  have hu0 : u.1 ≤ (xAl 242).1 ∧ u.2 ≤ (xAl 242).2 := ⟨by show u.1 ≤ 601024; omega, by show u.2 ≤ 7293033; omega⟩
  have a1 : vp_in (nI i + nI 1) n := vpx (by omega) (by omega)
  have a2 : vp_in (nI i + nI 2) n := vpx (by omega) (by omega)
  have a3 : vp_in (nI i + nI 3) n := vpx (by omega) (by omega)
  have a4 : vp_in (nI i + nI 4) n := vpx (by omega) (by omega)
  refine r_aload_n hP d242_556 rfl ?_
  refine r_aload_n hP d242_557 rfl ?_
  refine r_iload hP d242_558 rfl ?_
  refine r_iconst (v := nI 1) hP d242_560 rfl ?_
  refine r_iadd hP d242_561 ?_
  refine r_sld hP d242_562 a1 ?_
  refine r_callv (M' := 109) (As := [.int (xs (nI i + nI 1).toNatClampNeg)]) (S := []) hP d242_563 (by decide +kernel) (by decide +kernel) rfl (by simp [Value.category]) rfl ly_0 (by simp [Value.category]) hu0 (tk_quarters (xs (nI i + nI 1).toNatClampNeg) N R B r mem _ h hB' (fun w m1 k2 => Bk.i ?_))
  refine r_aload_n hP d242_566 rfl ?_
  refine r_aload_n hP d242_567 rfl ?_
  refine r_iload hP d242_568 rfl ?_
  refine r_iconst (v := nI 1) hP d242_570 rfl ?_
  refine r_iadd hP d242_571 ?_
  refine r_sld hP d242_572 a1 ?_
  refine r_callv (M' := 195) (As := [.int (xs (nI i + nI 1).toNatClampNeg)]) (S := [.int w]) hP d242_573 (by decide +kernel) (by decide +kernel) rfl (by simp [Value.category]) rfl ly_108 (by simp [Value.category]) hu0 (k2 _ fun r2 mem2 h2 => Bk.i ?_)
  refine r_icmp (t := 1595) hP d242_576 (by decide) (fun _ => ?_) (fun z => absurd rfl z)
  exact k _ _ _ _ u h2 (Nat.le_succ _) (Nat.le_add_right _ _)
theorem lw_10 {n : Nat} {xs : Nat → Int32} {P : xPr} {Q : xQr} (hP : Cl 300 (some (n, xs)) 242 P Q) {i r B N R : Nat} {u : Nat × Nat} {v5 v6 : Value} {mem : Nat → Nat → Int32} (hi : i + 5 ≤ n) (hn : n ≤ 2560) (h : RRc mem N R B) (hB : B + 20000 < 60000000) (hu : u.1 + 1 ≤ 601024 ∧ u.2 + 6 ≤ 7293033)
    (k : ∀ r' mem' v5 v6 u', RR (B + 20000) mem' → u'.1 ≤ u.1 + 1 → u'.2 ≤ u.2 + 6 → P 1595 [.ref 100000, .ref 0, .ref 108, .ref 144, .int (nI i), v5, v6] [] u' (LAY, RFu r', mem')) : P 581 [.ref 100000, .ref 0, .ref 108, .ref 144, .int (nI i), v5, v6] [] u (LAY, RFu r, mem) := by
  have hB' : B + 20000 < 500000000 := by omega
  have hu0 : u.1 ≤ (xAl 242).1 ∧ u.2 ≤ (xAl 242).2 := ⟨by show u.1 ≤ 601024; omega, by show u.2 ≤ 7293033; omega⟩
  have a1 : vp_in (nI i + nI 1) n := vpx (by omega) (by omega)
  have a2 : vp_in (nI i + nI 2) n := vpx (by omega) (by omega)
  have a3 : vp_in (nI i + nI 3) n := vpx (by omega) (by omega)
  have a4 : vp_in (nI i + nI 4) n := vpx (by omega) (by omega)
  refine r_aload_n hP d242_581 rfl ?_
  refine r_callv (M' := 111) (As := []) (S := []) hP d242_582 (by decide +kernel) (by decide +kernel) rfl (by simp) rfl ly_0 (by simp [Value.category]) hu0 (tk_undo  N R B r mem _ h hB' (fun w m1 k2 => Bk.i ?_))
  refine r_aload_n hP d242_585 rfl ?_
  refine r_callv (M' := 196) (As := []) (S := [.int w]) hP d242_586 (by decide +kernel) (by decide +kernel) rfl (by simp) rfl ly_108 (by simp [Value.category]) hu0 (k2 _ fun r2 mem2 h2 => Bk.i ?_)
  refine r_icmp (t := 1595) hP d242_589 (by decide) (fun _ => ?_) (fun z => absurd rfl z)
  exact k _ _ _ _ u h2 (Nat.le_succ _) (Nat.le_add_right _ _)
theorem lw_11 {n : Nat} {xs : Nat → Int32} {P : xPr} {Q : xQr} (hP : Cl 300 (some (n, xs)) 242 P Q) {i r B N R : Nat} {u : Nat × Nat} {v5 v6 : Value} {mem : Nat → Nat → Int32} (hi : i + 5 ≤ n) (hn : n ≤ 2560) (h : RRc mem N R B) (hB : B + 20000 < 60000000) (hu : u.1 + 1 ≤ 601024 ∧ u.2 + 6 ≤ 7293033)
    (k : ∀ r' mem' v5 v6 u', RR (B + 20000) mem' → u'.1 ≤ u.1 + 1 → u'.2 ≤ u.2 + 6 → P 1595 [.ref 100000, .ref 0, .ref 108, .ref 144, .int (nI i), v5, v6] [] u' (LAY, RFu r', mem')) : P 594 [.ref 100000, .ref 0, .ref 108, .ref 144, .int (nI i), v5, v6] [] u (LAY, RFu r, mem) := by
  have hB' : B + 20000 < 500000000 := by omega
  have hu0 : u.1 ≤ (xAl 242).1 ∧ u.2 ≤ (xAl 242).2 := ⟨by show u.1 ≤ 601024; omega, by show u.2 ≤ 7293033; omega⟩
  have a1 : vp_in (nI i + nI 1) n := vpx (by omega) (by omega)
  have a2 : vp_in (nI i + nI 2) n := vpx (by omega) (by omega)
  have a3 : vp_in (nI i + nI 3) n := vpx (by omega) (by omega)
  have a4 : vp_in (nI i + nI 4) n := vpx (by omega) (by omega)
  refine r_aload_n hP d242_594 rfl ?_
  refine r_aload_n hP d242_595 rfl ?_
  refine r_iload hP d242_596 rfl ?_
  refine r_iconst (v := nI 1) hP d242_598 rfl ?_
  refine r_iadd hP d242_599 ?_
  refine r_sld hP d242_600 a1 ?_
  refine r_callv (M' := 112) (As := [.int (xs (nI i + nI 1).toNatClampNeg)]) (S := []) hP d242_601 (by decide +kernel) (by decide +kernel) rfl (by simp [Value.category]) rfl ly_0 (by simp [Value.category]) hu0 (tk_in (xs (nI i + nI 1).toNatClampNeg) N R B r mem _ h hB' (fun w m1 k2 => Bk.i ?_))
  refine r_aload_n hP d242_604 rfl ?_
  refine r_aload_n hP d242_605 rfl ?_
  refine r_iload hP d242_606 rfl ?_
  refine r_iconst (v := nI 1) hP d242_608 rfl ?_
  refine r_iadd hP d242_609 ?_
  refine r_sld hP d242_610 a1 ?_
  refine r_callv (M' := 197) (As := [.int (xs (nI i + nI 1).toNatClampNeg)]) (S := [.int w]) hP d242_611 (by decide +kernel) (by decide +kernel) rfl (by simp [Value.category]) rfl ly_108 (by simp [Value.category]) hu0 (k2 _ fun r2 mem2 h2 => Bk.i ?_)
  refine r_icmp (t := 1595) hP d242_614 (by decide) (fun _ => ?_) (fun z => absurd rfl z)
  exact k _ _ _ _ u h2 (Nat.le_succ _) (Nat.le_add_right _ _)
theorem lw_12 {n : Nat} {xs : Nat → Int32} {P : xPr} {Q : xQr} (hP : Cl 300 (some (n, xs)) 242 P Q) {i r B N R : Nat} {u : Nat × Nat} {v5 v6 : Value} {mem : Nat → Nat → Int32} (hi : i + 5 ≤ n) (hn : n ≤ 2560) (h : RRc mem N R B) (hB : B + 20000 < 60000000) (hu : u.1 + 1 ≤ 601024 ∧ u.2 + 6 ≤ 7293033)
    (k : ∀ r' mem' v5 v6 u', RR (B + 20000) mem' → u'.1 ≤ u.1 + 1 → u'.2 ≤ u.2 + 6 → P 1595 [.ref 100000, .ref 0, .ref 108, .ref 144, .int (nI i), v5, v6] [] u' (LAY, RFu r', mem')) : P 619 [.ref 100000, .ref 0, .ref 108, .ref 144, .int (nI i), v5, v6] [] u (LAY, RFu r, mem) := by
  have hB' : B + 20000 < 500000000 := by omega
  have hu0 : u.1 ≤ (xAl 242).1 ∧ u.2 ≤ (xAl 242).2 := ⟨by show u.1 ≤ 601024; omega, by show u.2 ≤ 7293033; omega⟩
  have a1 : vp_in (nI i + nI 1) n := vpx (by omega) (by omega)
  have a2 : vp_in (nI i + nI 2) n := vpx (by omega) (by omega)
  have a3 : vp_in (nI i + nI 3) n := vpx (by omega) (by omega)
  have a4 : vp_in (nI i + nI 4) n := vpx (by omega) (by omega)
  refine r_aload_n hP d242_619 rfl ?_
  refine r_aload_n hP d242_620 rfl ?_
  refine r_iload hP d242_621 rfl ?_
  refine r_iconst (v := nI 1) hP d242_623 rfl ?_
  refine r_iadd hP d242_624 ?_
  refine r_sld hP d242_625 a1 ?_
  refine r_callv (M' := 113) (As := [.int (xs (nI i + nI 1).toNatClampNeg)]) (S := []) hP d242_626 (by decide +kernel) (by decide +kernel) rfl (by simp [Value.category]) rfl ly_0 (by simp [Value.category]) hu0 (tk_asks (xs (nI i + nI 1).toNatClampNeg) N R B r mem _ h hB' (fun w m1 k2 => Bk.i ?_))
  refine r_aload_n hP d242_629 rfl ?_
  refine r_aload_n hP d242_630 rfl ?_
  refine r_iload hP d242_631 rfl ?_
  refine r_iconst (v := nI 1) hP d242_633 rfl ?_
  refine r_iadd hP d242_634 ?_
  refine r_sld hP d242_635 a1 ?_
  refine r_callv (M' := 198) (As := [.int (xs (nI i + nI 1).toNatClampNeg)]) (S := [.int w]) hP d242_636 (by decide +kernel) (by decide +kernel) rfl (by simp [Value.category]) rfl ly_108 (by simp [Value.category]) hu0 (k2 _ fun r2 mem2 h2 => Bk.i ?_)
  refine r_icmp (t := 1595) hP d242_639 (by decide) (fun _ => ?_) (fun z => absurd rfl z)
  exact k _ _ _ _ u h2 (Nat.le_succ _) (Nat.le_add_right _ _)
theorem lw_13 {n : Nat} {xs : Nat → Int32} {P : xPr} {Q : xQr} (hP : Cl 300 (some (n, xs)) 242 P Q) {i r B N R : Nat} {u : Nat × Nat} {v5 v6 : Value} {mem : Nat → Nat → Int32} (hi : i + 5 ≤ n) (hn : n ≤ 2560) (h : RRc mem N R B) (hB : B + 20000 < 60000000) (hu : u.1 + 1 ≤ 601024 ∧ u.2 + 6 ≤ 7293033)
    (k : ∀ r' mem' v5 v6 u', RR (B + 20000) mem' → u'.1 ≤ u.1 + 1 → u'.2 ≤ u.2 + 6 → P 1595 [.ref 100000, .ref 0, .ref 108, .ref 144, .int (nI i), v5, v6] [] u' (LAY, RFu r', mem')) : P 644 [.ref 100000, .ref 0, .ref 108, .ref 144, .int (nI i), v5, v6] [] u (LAY, RFu r, mem) := by
  have hB' : B + 20000 < 500000000 := by omega
  have hu0 : u.1 ≤ (xAl 242).1 ∧ u.2 ≤ (xAl 242).2 := ⟨by show u.1 ≤ 601024; omega, by show u.2 ≤ 7293033; omega⟩
  have a1 : vp_in (nI i + nI 1) n := vpx (by omega) (by omega)
  have a2 : vp_in (nI i + nI 2) n := vpx (by omega) (by omega)
  have a3 : vp_in (nI i + nI 3) n := vpx (by omega) (by omega)
  have a4 : vp_in (nI i + nI 4) n := vpx (by omega) (by omega)
  refine r_aload_n hP d242_644 rfl ?_
  refine r_aload_n hP d242_645 rfl ?_
  refine r_iload hP d242_646 rfl ?_
  refine r_iconst (v := nI 1) hP d242_648 rfl ?_
  refine r_iadd hP d242_649 ?_
  refine r_sld hP d242_650 a1 ?_
  refine r_callv (M' := 114) (As := [.int (xs (nI i + nI 1).toNatClampNeg)]) (S := []) hP d242_651 (by decide +kernel) (by decide +kernel) rfl (by simp [Value.category]) rfl ly_0 (by simp [Value.category]) hu0 (tk_queue (xs (nI i + nI 1).toNatClampNeg) N R B r mem _ h hB' (fun w m1 k2 => Bk.i ?_))
  refine r_aload_n hP d242_654 rfl ?_
  refine r_aload_n hP d242_655 rfl ?_
  refine r_iload hP d242_656 rfl ?_
  refine r_iconst (v := nI 1) hP d242_658 rfl ?_
  refine r_iadd hP d242_659 ?_
  refine r_sld hP d242_660 a1 ?_
  refine r_callv (M' := 199) (As := [.int (xs (nI i + nI 1).toNatClampNeg)]) (S := [.int w]) hP d242_661 (by decide +kernel) (by decide +kernel) rfl (by simp [Value.category]) rfl ly_108 (by simp [Value.category]) hu0 (k2 _ fun r2 mem2 h2 => Bk.i ?_)
  refine r_icmp (t := 1595) hP d242_664 (by decide) (fun _ => ?_) (fun z => absurd rfl z)
  exact k _ _ _ _ u h2 (Nat.le_succ _) (Nat.le_add_right _ _)
theorem lw_14 {n : Nat} {xs : Nat → Int32} {P : xPr} {Q : xQr} (hP : Cl 300 (some (n, xs)) 242 P Q) {i r B N R : Nat} {u : Nat × Nat} {v5 v6 : Value} {mem : Nat → Nat → Int32} (hi : i + 5 ≤ n) (hn : n ≤ 2560) (h : RRc mem N R B) (hB : B + 20000 < 60000000) (hu : u.1 + 1 ≤ 601024 ∧ u.2 + 6 ≤ 7293033)
    (k : ∀ r' mem' v5 v6 u', RR (B + 20000) mem' → u'.1 ≤ u.1 + 1 → u'.2 ≤ u.2 + 6 → P 1595 [.ref 100000, .ref 0, .ref 108, .ref 144, .int (nI i), v5, v6] [] u' (LAY, RFu r', mem')) : P 669 [.ref 100000, .ref 0, .ref 108, .ref 144, .int (nI i), v5, v6] [] u (LAY, RFu r, mem) := by
  have hB' : B + 20000 < 500000000 := by omega
  have hu0 : u.1 ≤ (xAl 242).1 ∧ u.2 ≤ (xAl 242).2 := ⟨by show u.1 ≤ 601024; omega, by show u.2 ≤ 7293033; omega⟩
  have a1 : vp_in (nI i + nI 1) n := vpx (by omega) (by omega)
  have a2 : vp_in (nI i + nI 2) n := vpx (by omega) (by omega)
  have a3 : vp_in (nI i + nI 3) n := vpx (by omega) (by omega)
  have a4 : vp_in (nI i + nI 4) n := vpx (by omega) (by omega)
  refine r_aload_n hP d242_669 rfl ?_
  refine r_callv (M' := 116) (As := []) (S := []) hP d242_670 (by decide +kernel) (by decide +kernel) rfl (by simp) rfl ly_0 (by simp [Value.category]) hu0 (tk_day  N R B r mem _ h hB' (fun w m1 k2 => Bk.i ?_))
  refine r_aload_n hP d242_673 rfl ?_
  refine r_callv (M' := 200) (As := []) (S := [.int w]) hP d242_674 (by decide +kernel) (by decide +kernel) rfl (by simp) rfl ly_108 (by simp [Value.category]) hu0 (k2 _ fun r2 mem2 h2 => Bk.i ?_)
  refine r_icmp (t := 1595) hP d242_677 (by decide) (fun _ => ?_) (fun z => absurd rfl z)
  exact k _ _ _ _ u h2 (Nat.le_succ _) (Nat.le_add_right _ _)
theorem lw_15 {n : Nat} {xs : Nat → Int32} {P : xPr} {Q : xQr} (hP : Cl 300 (some (n, xs)) 242 P Q) {i r B N R : Nat} {u : Nat × Nat} {v5 v6 : Value} {mem : Nat → Nat → Int32} (hi : i + 5 ≤ n) (hn : n ≤ 2560) (h : RRc mem N R B) (hB : B + 20000 < 60000000) (hu : u.1 + 1 ≤ 601024 ∧ u.2 + 6 ≤ 7293033)
    (k : ∀ r' mem' v5 v6 u', RR (B + 20000) mem' → u'.1 ≤ u.1 + 1 → u'.2 ≤ u.2 + 6 → P 1595 [.ref 100000, .ref 0, .ref 108, .ref 144, .int (nI i), v5, v6] [] u' (LAY, RFu r', mem')) : P 682 [.ref 100000, .ref 0, .ref 108, .ref 144, .int (nI i), v5, v6] [] u (LAY, RFu r, mem) := by
  have hB' : B + 20000 < 500000000 := by omega
  have hu0 : u.1 ≤ (xAl 242).1 ∧ u.2 ≤ (xAl 242).2 := ⟨by show u.1 ≤ 601024; omega, by show u.2 ≤ 7293033; omega⟩
  have a1 : vp_in (nI i + nI 1) n := vpx (by omega) (by omega)
  have a2 : vp_in (nI i + nI 2) n := vpx (by omega) (by omega)
  have a3 : vp_in (nI i + nI 3) n := vpx (by omega) (by omega)
  have a4 : vp_in (nI i + nI 4) n := vpx (by omega) (by omega)
  refine r_aload_n hP d242_682 rfl ?_
  refine r_aload_n hP d242_683 rfl ?_
  refine r_iload hP d242_684 rfl ?_
  refine r_iconst (v := nI 1) hP d242_686 rfl ?_
  refine r_iadd hP d242_687 ?_
  refine r_sld hP d242_688 a1 ?_
  refine r_aload_n hP d242_689 rfl ?_
  refine r_iload hP d242_690 rfl ?_
  refine r_iconst (v := nI 2) hP d242_692 rfl ?_
  refine r_iadd hP d242_693 ?_
  refine r_sld hP d242_694 a2 ?_
  refine r_aload_n hP d242_695 rfl ?_
  have hc : xCallOK 242 239 [.ref 100000, .ref 0, .ref 108, .ref 144, .int (nI i), v5, v6] [] u (LAY, RFu r, mem) := ⟨rfl, by decide, by decide, by show u.1 + 1 ≤ 601024; omega, by show u.2 + 6 ≤ 7293033; omega, fun q => by cases q⟩
  have hu1 : (u.1 + 1, u.2 + 6).1 ≤ (xAl 242).1 ∧ (u.1 + 1, u.2 + 6).2 ≤ (xAl 242).2 := ⟨by show u.1 + 1 ≤ 601024; omega, by show u.2 + 6 ≤ 7293033; omega⟩
  refine hP.i d242_696 ⟨rfl, Or.inl ⟨239, [.ref 0, .int (xs (nI i + nI 1).toNatClampNeg), .int (xs (nI i + nI 2).toNatClampNeg), .ref 144], [], by decide +kernel, rfl, by simp [Value.category], rfl, hc, Or.inr ⟨118, 0, [(xs (nI i + nI 1).toNatClampNeg), (xs (nI i + nI 2).toNatClampNeg)], 144, 1, 17, rfl, rfl, rfl, ly_0, ly_144, by decide, tk_will (xs (nI i + nI 1).toNatClampNeg) (xs (nI i + nI 2).toNatClampNeg) N R B r mem _ h hB' (fun m1 k2 => Or.inl ⟨rfl, (fun q => by cases q), ?_⟩) (fun w m1 k2 => Or.inr ⟨w, rfl, (fun q => by cases q), ?_⟩)⟩⟩⟩
  · show P 699 [.ref 100000, .ref 0, .ref 108, .ref 144, .int (nI i), v5, v6] [.int 1] (u.1 + 1, u.2 + 6) (LAY, RFu r, m1)
    refine r_istore (L' := [.ref 100000, .ref 0, .ref 108, .ref 144, .int (nI i), .int 1, v6]) hP d242_699 (Nat.le_of_ble_eq_true rfl) rfl ?_
    refine r_aload_n hP d242_701 rfl ?_
    refine r_aload_n hP d242_702 rfl ?_
    refine r_iload hP d242_703 rfl ?_
    refine r_iconst (v := nI 1) hP d242_705 rfl ?_
    refine r_iadd hP d242_706 ?_
    refine r_sld hP d242_707 a1 ?_
    refine r_aload_n hP d242_708 rfl ?_
    refine r_iload hP d242_709 rfl ?_
    refine r_iconst (v := nI 2) hP d242_711 rfl ?_
    refine r_iadd hP d242_712 ?_
    refine r_sld hP d242_713 a2 ?_
    refine r_callv (M' := 203) (As := [.int (xs (nI i + nI 1).toNatClampNeg), .int (xs (nI i + nI 2).toNatClampNeg)]) (S := []) hP d242_714 (by decide +kernel) (by decide +kernel) rfl (by simp [Value.category]) rfl ly_108 (by simp [Value.category]) hu1 (k2 _ fun r2 mem2 w h2 e20 => Bk.i ?_)
    refine r_istore (L' := [.ref 100000, .ref 0, .ref 108, .ref 144, .int (nI i), .int 1, .int w]) hP d242_717 (Nat.le_of_ble_eq_true rfl) rfl ?_
    refine r_aload_n hP d242_719 rfl ?_
    refine r_callv (M' := 157) (As := []) (S := []) hP d242_720 (by decide +kernel) (by decide +kernel) rfl (by simp) rfl ly_108 (by simp [Value.category]) hu1 (c_in rfl rfl rfl fun P2 hP2 => b157_0 hP2 (Bk.i ?_))
    rw [e20]
    refine r_iload hP d242_723 rfl ?_
    refine r_icmp (t := 730) hP d242_725 (by decide) (fun _ => ?_) (fun z => absurd (show nI 1 = 1 by decide) z)
    refine r_iload hP d242_730 rfl ?_
    refine r_if (t := 747) hP d242_732 (by decide) (fun _ => ?_) (fun z => absurd (show ¬ (1 : Int32) = 0 by decide) z)
    refine r_goto (t := 1595) hP d242_747 (by decide) ?_
    exact k _ _ _ _ (u.1 + 1, u.2 + 6) h2 (Nat.le_refl _) (Nat.le_refl _)
  · show P 699 [.ref 100000, .ref 0, .ref 108, .ref 144, .int (nI i), v5, v6] [.int 0] (u.1 + 1, u.2 + 6) (LAY, RFu r, xu2 m1 144 0 w)
    refine r_istore (L' := [.ref 100000, .ref 0, .ref 108, .ref 144, .int (nI i), .int 0, v6]) hP d242_699 (Nat.le_of_ble_eq_true rfl) rfl ?_
    refine r_aload_n hP d242_701 rfl ?_
    refine r_aload_n hP d242_702 rfl ?_
    refine r_iload hP d242_703 rfl ?_
    refine r_iconst (v := nI 1) hP d242_705 rfl ?_
    refine r_iadd hP d242_706 ?_
    refine r_sld hP d242_707 a1 ?_
    refine r_aload_n hP d242_708 rfl ?_
    refine r_iload hP d242_709 rfl ?_
    refine r_iconst (v := nI 2) hP d242_711 rfl ?_
    refine r_iadd hP d242_712 ?_
    refine r_sld hP d242_713 a2 ?_
    refine r_callv (M' := 203) (As := [.int (xs (nI i + nI 1).toNatClampNeg), .int (xs (nI i + nI 2).toNatClampNeg)]) (S := []) hP d242_714 (by decide +kernel) (by decide +kernel) rfl (by simp [Value.category]) rfl ly_108 (by simp [Value.category]) hu1 (k2 _ fun r2 mem2 h2 e20 e144 => Bk.i ?_)
    refine r_istore (L' := [.ref 100000, .ref 0, .ref 108, .ref 144, .int (nI i), .int 0, .int w]) hP d242_717 (Nat.le_of_ble_eq_true rfl) rfl ?_
    refine r_aload_n hP d242_719 rfl ?_
    refine r_callv (M' := 157) (As := []) (S := []) hP d242_720 (by decide +kernel) (by decide +kernel) rfl (by simp) rfl ly_108 (by simp [Value.category]) hu1 (c_in rfl rfl rfl fun P2 hP2 => b157_0 hP2 (Bk.i ?_))
    rw [e20]
    refine r_iload hP d242_723 rfl ?_
    refine r_icmp (t := 730) hP d242_725 (by decide) (fun _ => ?_) (fun z => absurd (show nI 0 = 0 by decide) z)
    refine r_iload hP d242_730 rfl ?_
    refine r_if (t := 747) hP d242_732 (by decide) (fun z => absurd (rfl : (0 : Int32) = 0) z) (fun _ => ?_)
    refine r_aload_n hP d242_735 rfl ?_
    refine r_iconst (v := nI 0) hP d242_736 rfl ?_
    refine r_laload hP d242_737 ly_144 (vpn (a := 0) (by decide) (by decide)) ?_
    rw [show mem2 144 (nI 0).toNatClampNeg = w from e144]
    refine r_iload hP d242_738 rfl ?_
    refine r_i2l hP d242_740 ?_
    refine r_lcmp hP d242_741 ?_
    refine r_if (t := 747) hP d242_742 (by decide) (fun _ => ?_) (fun z => absurd (lg_self _) z)
    refine r_goto (t := 1595) hP d242_747 (by decide) ?_
    exact k _ _ _ _ (u.1 + 1, u.2 + 6) h2 (Nat.le_refl _) (Nat.le_refl _)
theorem lw_16 {n : Nat} {xs : Nat → Int32} {P : xPr} {Q : xQr} (hP : Cl 300 (some (n, xs)) 242 P Q) {i r B N R : Nat} {u : Nat × Nat} {v5 v6 : Value} {mem : Nat → Nat → Int32} (hi : i + 5 ≤ n) (hn : n ≤ 2560) (h : RRc mem N R B) (hB : B + 20000 < 60000000) (hu : u.1 + 1 ≤ 601024 ∧ u.2 + 6 ≤ 7293033)
    (k : ∀ r' mem' v5 v6 u', RR (B + 20000) mem' → u'.1 ≤ u.1 + 1 → u'.2 ≤ u.2 + 6 → P 1595 [.ref 100000, .ref 0, .ref 108, .ref 144, .int (nI i), v5, v6] [] u' (LAY, RFu r', mem')) : P 750 [.ref 100000, .ref 0, .ref 108, .ref 144, .int (nI i), v5, v6] [] u (LAY, RFu r, mem) := by
  have hB' : B + 20000 < 500000000 := by omega
  have hu0 : u.1 ≤ (xAl 242).1 ∧ u.2 ≤ (xAl 242).2 := ⟨by show u.1 ≤ 601024; omega, by show u.2 ≤ 7293033; omega⟩
  have a1 : vp_in (nI i + nI 1) n := vpx (by omega) (by omega)
  have a2 : vp_in (nI i + nI 2) n := vpx (by omega) (by omega)
  have a3 : vp_in (nI i + nI 3) n := vpx (by omega) (by omega)
  have a4 : vp_in (nI i + nI 4) n := vpx (by omega) (by omega)
  refine r_aload_n hP d242_750 rfl ?_
  refine r_aload_n hP d242_751 rfl ?_
  refine r_iload hP d242_752 rfl ?_
  refine r_iconst (v := nI 1) hP d242_754 rfl ?_
  refine r_iadd hP d242_755 ?_
  refine r_sld hP d242_756 a1 ?_
  refine r_aload_n hP d242_757 rfl ?_
  refine r_iload hP d242_758 rfl ?_
  refine r_iconst (v := nI 2) hP d242_760 rfl ?_
  refine r_iadd hP d242_761 ?_
  refine r_sld hP d242_762 a2 ?_
  refine r_callv (M' := 119) (As := [.int (xs (nI i + nI 1).toNatClampNeg), .int (xs (nI i + nI 2).toNatClampNeg)]) (S := []) hP d242_763 (by decide +kernel) (by decide +kernel) rfl (by simp [Value.category]) rfl ly_0 (by simp [Value.category]) hu0 (tk_longest (xs (nI i + nI 1).toNatClampNeg) (xs (nI i + nI 2).toNatClampNeg) N R B r mem _ h hB' (fun w m1 k2 => Bk.i ?_))
  refine r_aload_n hP d242_766 rfl ?_
  refine r_aload_n hP d242_767 rfl ?_
  refine r_iload hP d242_768 rfl ?_
  refine r_iconst (v := nI 1) hP d242_770 rfl ?_
  refine r_iadd hP d242_771 ?_
  refine r_sld hP d242_772 a1 ?_
  refine r_aload_n hP d242_773 rfl ?_
  refine r_iload hP d242_774 rfl ?_
  refine r_iconst (v := nI 2) hP d242_776 rfl ?_
  refine r_iadd hP d242_777 ?_
  refine r_sld hP d242_778 a2 ?_
  refine r_callv (M' := 204) (As := [.int (xs (nI i + nI 1).toNatClampNeg), .int (xs (nI i + nI 2).toNatClampNeg)]) (S := [.int w]) hP d242_779 (by decide +kernel) (by decide +kernel) rfl (by simp [Value.category]) rfl ly_108 (by simp [Value.category]) hu0 (k2 _ fun r2 mem2 h2 => Bk.i ?_)
  refine r_icmp (t := 1595) hP d242_782 (by decide) (fun _ => ?_) (fun z => absurd rfl z)
  exact k _ _ _ _ u h2 (Nat.le_succ _) (Nat.le_add_right _ _)
theorem lw_17 {n : Nat} {xs : Nat → Int32} {P : xPr} {Q : xQr} (hP : Cl 300 (some (n, xs)) 242 P Q) {i r B N R : Nat} {u : Nat × Nat} {v5 v6 : Value} {mem : Nat → Nat → Int32} (hi : i + 5 ≤ n) (hn : n ≤ 2560) (h : RRc mem N R B) (hB : B + 20000 < 60000000) (hu : u.1 + 1 ≤ 601024 ∧ u.2 + 6 ≤ 7293033)
    (k : ∀ r' mem' v5 v6 u', RR (B + 20000) mem' → u'.1 ≤ u.1 + 1 → u'.2 ≤ u.2 + 6 → P 1595 [.ref 100000, .ref 0, .ref 108, .ref 144, .int (nI i), v5, v6] [] u' (LAY, RFu r', mem')) : P 787 [.ref 100000, .ref 0, .ref 108, .ref 144, .int (nI i), v5, v6] [] u (LAY, RFu r, mem) := by
  have hB' : B + 20000 < 500000000 := by omega
  have hu0 : u.1 ≤ (xAl 242).1 ∧ u.2 ≤ (xAl 242).2 := ⟨by show u.1 ≤ 601024; omega, by show u.2 ≤ 7293033; omega⟩
  have a1 : vp_in (nI i + nI 1) n := vpx (by omega) (by omega)
  have a2 : vp_in (nI i + nI 2) n := vpx (by omega) (by omega)
  have a3 : vp_in (nI i + nI 3) n := vpx (by omega) (by omega)
  have a4 : vp_in (nI i + nI 4) n := vpx (by omega) (by omega)
  refine r_aload_n hP d242_787 rfl ?_
  refine r_aload_n hP d242_788 rfl ?_
  refine r_iload hP d242_789 rfl ?_
  refine r_iconst (v := nI 1) hP d242_791 rfl ?_
  refine r_iadd hP d242_792 ?_
  refine r_sld hP d242_793 a1 ?_
  refine r_aload_n hP d242_794 rfl ?_
  refine r_iload hP d242_795 rfl ?_
  refine r_iconst (v := nI 2) hP d242_797 rfl ?_
  refine r_iadd hP d242_798 ?_
  refine r_sld hP d242_799 a2 ?_
  refine r_callv (M' := 120) (As := [.int (xs (nI i + nI 1).toNatClampNeg), .int (xs (nI i + nI 2).toNatClampNeg)]) (S := []) hP d242_800 (by decide +kernel) (by decide +kernel) rfl (by simp [Value.category]) rfl ly_0 (by simp [Value.category]) hu0 (tk_gave (xs (nI i + nI 1).toNatClampNeg) (xs (nI i + nI 2).toNatClampNeg) N R B r mem _ h hB' (fun w m1 k2 => Bk.i ?_))
  refine r_aload_n hP d242_803 rfl ?_
  refine r_aload_n hP d242_804 rfl ?_
  refine r_iload hP d242_805 rfl ?_
  refine r_iconst (v := nI 1) hP d242_807 rfl ?_
  refine r_iadd hP d242_808 ?_
  refine r_sld hP d242_809 a1 ?_
  refine r_aload_n hP d242_810 rfl ?_
  refine r_iload hP d242_811 rfl ?_
  refine r_iconst (v := nI 2) hP d242_813 rfl ?_
  refine r_iadd hP d242_814 ?_
  refine r_sld hP d242_815 a2 ?_
  refine r_callv (M' := 205) (As := [.int (xs (nI i + nI 1).toNatClampNeg), .int (xs (nI i + nI 2).toNatClampNeg)]) (S := [.int w]) hP d242_816 (by decide +kernel) (by decide +kernel) rfl (by simp [Value.category]) rfl ly_108 (by simp [Value.category]) hu0 (k2 _ fun r2 mem2 h2 => Bk.i ?_)
  refine r_icmp (t := 1595) hP d242_819 (by decide) (fun _ => ?_) (fun z => absurd rfl z)
  exact k _ _ _ _ u h2 (Nat.le_succ _) (Nat.le_add_right _ _)
theorem lw_18 {n : Nat} {xs : Nat → Int32} {P : xPr} {Q : xQr} (hP : Cl 300 (some (n, xs)) 242 P Q) {i r B N R : Nat} {u : Nat × Nat} {v5 v6 : Value} {mem : Nat → Nat → Int32} (hi : i + 5 ≤ n) (hn : n ≤ 2560) (h : RRc mem N R B) (hB : B + 20000 < 60000000) (hu : u.1 + 1 ≤ 601024 ∧ u.2 + 6 ≤ 7293033)
    (k : ∀ r' mem' v5 v6 u', RR (B + 20000) mem' → u'.1 ≤ u.1 + 1 → u'.2 ≤ u.2 + 6 → P 1595 [.ref 100000, .ref 0, .ref 108, .ref 144, .int (nI i), v5, v6] [] u' (LAY, RFu r', mem')) : P 824 [.ref 100000, .ref 0, .ref 108, .ref 144, .int (nI i), v5, v6] [] u (LAY, RFu r, mem) := by
  have hB' : B + 20000 < 500000000 := by omega
  have hu0 : u.1 ≤ (xAl 242).1 ∧ u.2 ≤ (xAl 242).2 := ⟨by show u.1 ≤ 601024; omega, by show u.2 ≤ 7293033; omega⟩
  have a1 : vp_in (nI i + nI 1) n := vpx (by omega) (by omega)
  have a2 : vp_in (nI i + nI 2) n := vpx (by omega) (by omega)
  have a3 : vp_in (nI i + nI 3) n := vpx (by omega) (by omega)
  have a4 : vp_in (nI i + nI 4) n := vpx (by omega) (by omega)
  refine r_aload_n hP d242_824 rfl ?_
  refine r_callv (M' := 121) (As := []) (S := []) hP d242_825 (by decide +kernel) (by decide +kernel) rfl (by simp) rfl ly_0 (by simp [Value.category]) hu0 (tk_pair  N R B r mem _ h hB' (fun w m1 k2 => Bk.i ?_))
  refine r_aload_n hP d242_828 rfl ?_
  refine r_callv (M' := 206) (As := []) (S := [.int w]) hP d242_829 (by decide +kernel) (by decide +kernel) rfl (by simp) rfl ly_108 (by simp [Value.category]) hu0 (k2 _ fun r2 mem2 h2 => Bk.i ?_)
  refine r_icmp (t := 1595) hP d242_832 (by decide) (fun _ => ?_) (fun z => absurd rfl z)
  exact k _ _ _ _ u h2 (Nat.le_succ _) (Nat.le_add_right _ _)
theorem lw_19 {n : Nat} {xs : Nat → Int32} {P : xPr} {Q : xQr} (hP : Cl 300 (some (n, xs)) 242 P Q) {i r B N R : Nat} {u : Nat × Nat} {v5 v6 : Value} {mem : Nat → Nat → Int32} (hi : i + 5 ≤ n) (hn : n ≤ 2560) (h : RRc mem N R B) (hB : B + 20000 < 60000000) (hu : u.1 + 1 ≤ 601024 ∧ u.2 + 6 ≤ 7293033)
    (k : ∀ r' mem' v5 v6 u', RR (B + 20000) mem' → u'.1 ≤ u.1 + 1 → u'.2 ≤ u.2 + 6 → P 1595 [.ref 100000, .ref 0, .ref 108, .ref 144, .int (nI i), v5, v6] [] u' (LAY, RFu r', mem')) : P 837 [.ref 100000, .ref 0, .ref 108, .ref 144, .int (nI i), v5, v6] [] u (LAY, RFu r, mem) := by
  have hB' : B + 20000 < 500000000 := by omega
  have hu0 : u.1 ≤ (xAl 242).1 ∧ u.2 ≤ (xAl 242).2 := ⟨by show u.1 ≤ 601024; omega, by show u.2 ≤ 7293033; omega⟩
  have a1 : vp_in (nI i + nI 1) n := vpx (by omega) (by omega)
  have a2 : vp_in (nI i + nI 2) n := vpx (by omega) (by omega)
  have a3 : vp_in (nI i + nI 3) n := vpx (by omega) (by omega)
  have a4 : vp_in (nI i + nI 4) n := vpx (by omega) (by omega)
  refine r_aload_n hP d242_837 rfl ?_
  refine r_aload_n hP d242_838 rfl ?_
  refine r_iload hP d242_839 rfl ?_
  refine r_iconst (v := nI 1) hP d242_841 rfl ?_
  refine r_iadd hP d242_842 ?_
  refine r_sld hP d242_843 a1 ?_
  refine r_aload_n hP d242_844 rfl ?_
  refine r_iload hP d242_845 rfl ?_
  refine r_iconst (v := nI 2) hP d242_847 rfl ?_
  refine r_iadd hP d242_848 ?_
  refine r_sld hP d242_849 a2 ?_
  refine r_aload_n hP d242_850 rfl ?_
  refine r_iload hP d242_851 rfl ?_
  refine r_iconst (v := nI 3) hP d242_853 rfl ?_
  refine r_iadd hP d242_854 ?_
  refine r_sld hP d242_855 a3 ?_
  refine r_callv (M' := 122) (As := [.int (xs (nI i + nI 1).toNatClampNeg), .int (xs (nI i + nI 2).toNatClampNeg), .int (xs (nI i + nI 3).toNatClampNeg)]) (S := []) hP d242_856 (by decide +kernel) (by decide +kernel) rfl (by simp [Value.category]) rfl ly_0 (by simp [Value.category]) hu0 (tk_lend' (xs (nI i + nI 1).toNatClampNeg) (xs (nI i + nI 2).toNatClampNeg) (xs (nI i + nI 3).toNatClampNeg) N R B r mem _ h hB' (fun w m1 k2 => Bk.i ?_))
  refine r_aload_n hP d242_859 rfl ?_
  refine r_aload_n hP d242_860 rfl ?_
  refine r_iload hP d242_861 rfl ?_
  refine r_iconst (v := nI 1) hP d242_863 rfl ?_
  refine r_iadd hP d242_864 ?_
  refine r_sld hP d242_865 a1 ?_
  refine r_aload_n hP d242_866 rfl ?_
  refine r_iload hP d242_867 rfl ?_
  refine r_iconst (v := nI 2) hP d242_869 rfl ?_
  refine r_iadd hP d242_870 ?_
  refine r_sld hP d242_871 a2 ?_
  refine r_aload_n hP d242_872 rfl ?_
  refine r_iload hP d242_873 rfl ?_
  refine r_iconst (v := nI 3) hP d242_875 rfl ?_
  refine r_iadd hP d242_876 ?_
  refine r_sld hP d242_877 a3 ?_
  refine r_callv (M' := 207) (As := [.int (xs (nI i + nI 1).toNatClampNeg), .int (xs (nI i + nI 2).toNatClampNeg), .int (xs (nI i + nI 3).toNatClampNeg)]) (S := [.int w]) hP d242_878 (by decide +kernel) (by decide +kernel) rfl (by simp [Value.category]) rfl ly_108 (by simp [Value.category]) hu0 (k2 _ fun r2 mem2 h2 => Bk.i ?_)
  refine r_icmp (t := 1595) hP d242_881 (by decide) (fun _ => ?_) (fun z => absurd rfl z)
  exact k _ _ _ _ u h2 (Nat.le_succ _) (Nat.le_add_right _ _)
theorem lw_20 {n : Nat} {xs : Nat → Int32} {P : xPr} {Q : xQr} (hP : Cl 300 (some (n, xs)) 242 P Q) {i r B N R : Nat} {u : Nat × Nat} {v5 v6 : Value} {mem : Nat → Nat → Int32} (hi : i + 5 ≤ n) (hn : n ≤ 2560) (h : RRc mem N R B) (hB : B + 20000 < 60000000) (hu : u.1 + 1 ≤ 601024 ∧ u.2 + 6 ≤ 7293033)
    (k : ∀ r' mem' v5 v6 u', RR (B + 20000) mem' → u'.1 ≤ u.1 + 1 → u'.2 ≤ u.2 + 6 → P 1595 [.ref 100000, .ref 0, .ref 108, .ref 144, .int (nI i), v5, v6] [] u' (LAY, RFu r', mem')) : P 886 [.ref 100000, .ref 0, .ref 108, .ref 144, .int (nI i), v5, v6] [] u (LAY, RFu r, mem) := by
  have hB' : B + 20000 < 500000000 := by omega
  have hu0 : u.1 ≤ (xAl 242).1 ∧ u.2 ≤ (xAl 242).2 := ⟨by show u.1 ≤ 601024; omega, by show u.2 ≤ 7293033; omega⟩
  have a1 : vp_in (nI i + nI 1) n := vpx (by omega) (by omega)
  have a2 : vp_in (nI i + nI 2) n := vpx (by omega) (by omega)
  have a3 : vp_in (nI i + nI 3) n := vpx (by omega) (by omega)
  have a4 : vp_in (nI i + nI 4) n := vpx (by omega) (by omega)
  refine r_aload_n hP d242_886 rfl ?_
  refine r_callv (M' := 123) (As := []) (S := []) hP d242_887 (by decide +kernel) (by decide +kernel) rfl (by simp) rfl ly_0 (by simp [Value.category]) hu0 (tk_fewest  N R B r mem _ h hB' (fun w m1 k2 => Bk.i ?_))
  refine r_aload_n hP d242_890 rfl ?_
  refine r_callv (M' := 209) (As := []) (S := [.int w]) hP d242_891 (by decide +kernel) (by decide +kernel) rfl (by simp) rfl ly_108 (by simp [Value.category]) hu0 (k2 _ fun r2 mem2 h2 => Bk.i ?_)
  refine r_icmp (t := 1595) hP d242_894 (by decide) (fun _ => ?_) (fun z => absurd rfl z)
  exact k _ _ _ _ u h2 (Nat.le_succ _) (Nat.le_add_right _ _)
theorem lw_21 {n : Nat} {xs : Nat → Int32} {P : xPr} {Q : xQr} (hP : Cl 300 (some (n, xs)) 242 P Q) {i r B N R : Nat} {u : Nat × Nat} {v5 v6 : Value} {mem : Nat → Nat → Int32} (hi : i + 5 ≤ n) (hn : n ≤ 2560) (h : RRc mem N R B) (hB : B + 20000 < 60000000) (hu : u.1 + 1 ≤ 601024 ∧ u.2 + 6 ≤ 7293033)
    (k : ∀ r' mem' v5 v6 u', RR (B + 20000) mem' → u'.1 ≤ u.1 + 1 → u'.2 ≤ u.2 + 6 → P 1595 [.ref 100000, .ref 0, .ref 108, .ref 144, .int (nI i), v5, v6] [] u' (LAY, RFu r', mem')) : P 899 [.ref 100000, .ref 0, .ref 108, .ref 144, .int (nI i), v5, v6] [] u (LAY, RFu r, mem) := by
  have hB' : B + 20000 < 500000000 := by omega
  have hu0 : u.1 ≤ (xAl 242).1 ∧ u.2 ≤ (xAl 242).2 := ⟨by show u.1 ≤ 601024; omega, by show u.2 ≤ 7293033; omega⟩
  have a1 : vp_in (nI i + nI 1) n := vpx (by omega) (by omega)
  have a2 : vp_in (nI i + nI 2) n := vpx (by omega) (by omega)
  have a3 : vp_in (nI i + nI 3) n := vpx (by omega) (by omega)
  have a4 : vp_in (nI i + nI 4) n := vpx (by omega) (by omega)
  refine r_aload_n hP d242_899 rfl ?_
  refine r_callv (M' := 124) (As := []) (S := []) hP d242_900 (by decide +kernel) (by decide +kernel) rfl (by simp) rfl ly_0 (by simp [Value.category]) hu0 (tk_settle  N R B r mem _ h hB' (fun w m1 k2 => Bk.i ?_))
  refine r_aload_n hP d242_903 rfl ?_
  refine r_callv (M' := 210) (As := []) (S := [.int w]) hP d242_904 (by decide +kernel) (by decide +kernel) rfl (by simp) rfl ly_108 (by simp [Value.category]) hu0 (k2 _ fun r2 mem2 h2 => Bk.i ?_)
  refine r_icmp (t := 1595) hP d242_907 (by decide) (fun _ => ?_) (fun z => absurd rfl z)
  exact k _ _ _ _ u h2 (Nat.le_succ _) (Nat.le_add_right _ _)
theorem lw_22 {n : Nat} {xs : Nat → Int32} {P : xPr} {Q : xQr} (hP : Cl 300 (some (n, xs)) 242 P Q) {i r B N R : Nat} {u : Nat × Nat} {v5 v6 : Value} {mem : Nat → Nat → Int32} (hi : i + 5 ≤ n) (hn : n ≤ 2560) (h : RRc mem N R B) (hB : B + 20000 < 60000000) (hu : u.1 + 1 ≤ 601024 ∧ u.2 + 6 ≤ 7293033)
    (k : ∀ r' mem' v5 v6 u', RR (B + 20000) mem' → u'.1 ≤ u.1 + 1 → u'.2 ≤ u.2 + 6 → P 1595 [.ref 100000, .ref 0, .ref 108, .ref 144, .int (nI i), v5, v6] [] u' (LAY, RFu r', mem')) : P 912 [.ref 100000, .ref 0, .ref 108, .ref 144, .int (nI i), v5, v6] [] u (LAY, RFu r, mem) := by
  have hB' : B + 20000 < 500000000 := by omega
  have hu0 : u.1 ≤ (xAl 242).1 ∧ u.2 ≤ (xAl 242).2 := ⟨by show u.1 ≤ 601024; omega, by show u.2 ≤ 7293033; omega⟩
  have a1 : vp_in (nI i + nI 1) n := vpx (by omega) (by omega)
  have a2 : vp_in (nI i + nI 2) n := vpx (by omega) (by omega)
  have a3 : vp_in (nI i + nI 3) n := vpx (by omega) (by omega)
  have a4 : vp_in (nI i + nI 4) n := vpx (by omega) (by omega)
  refine r_aload_n hP d242_912 rfl ?_
  refine r_aload_n hP d242_913 rfl ?_
  refine r_iload hP d242_914 rfl ?_
  refine r_iconst (v := nI 1) hP d242_916 rfl ?_
  refine r_iadd hP d242_917 ?_
  refine r_sld hP d242_918 a1 ?_
  refine r_aload_n hP d242_919 rfl ?_
  refine r_iload hP d242_920 rfl ?_
  refine r_iconst (v := nI 2) hP d242_922 rfl ?_
  refine r_iadd hP d242_923 ?_
  refine r_sld hP d242_924 a2 ?_
  refine r_callv (M' := 125) (As := [.int (xs (nI i + nI 1).toNatClampNeg), .int (xs (nI i + nI 2).toNatClampNeg)]) (S := []) hP d242_925 (by decide +kernel) (by decide +kernel) rfl (by simp [Value.category]) rfl ly_0 (by simp [Value.category]) hu0 (tk_least (xs (nI i + nI 1).toNatClampNeg) (xs (nI i + nI 2).toNatClampNeg) N R B r mem _ h hB' (fun w m1 k2 => Bk.i ?_))
  refine r_aload_n hP d242_928 rfl ?_
  refine r_aload_n hP d242_929 rfl ?_
  refine r_iload hP d242_930 rfl ?_
  refine r_iconst (v := nI 1) hP d242_932 rfl ?_
  refine r_iadd hP d242_933 ?_
  refine r_sld hP d242_934 a1 ?_
  refine r_aload_n hP d242_935 rfl ?_
  refine r_iload hP d242_936 rfl ?_
  refine r_iconst (v := nI 2) hP d242_938 rfl ?_
  refine r_iadd hP d242_939 ?_
  refine r_sld hP d242_940 a2 ?_
  refine r_callv (M' := 211) (As := [.int (xs (nI i + nI 1).toNatClampNeg), .int (xs (nI i + nI 2).toNatClampNeg)]) (S := [.int w]) hP d242_941 (by decide +kernel) (by decide +kernel) rfl (by simp [Value.category]) rfl ly_108 (by simp [Value.category]) hu0 (k2 _ fun r2 mem2 h2 => Bk.i ?_)
  refine r_icmp (t := 1595) hP d242_944 (by decide) (fun _ => ?_) (fun z => absurd rfl z)
  exact k _ _ _ _ u h2 (Nat.le_succ _) (Nat.le_add_right _ _)
theorem lw_23 {n : Nat} {xs : Nat → Int32} {P : xPr} {Q : xQr} (hP : Cl 300 (some (n, xs)) 242 P Q) {i r B N R : Nat} {u : Nat × Nat} {v5 v6 : Value} {mem : Nat → Nat → Int32} (hi : i + 5 ≤ n) (hn : n ≤ 2560) (h : RRc mem N R B) (hB : B + 20000 < 60000000) (hu : u.1 + 1 ≤ 601024 ∧ u.2 + 6 ≤ 7293033)
    (k : ∀ r' mem' v5 v6 u', RR (B + 20000) mem' → u'.1 ≤ u.1 + 1 → u'.2 ≤ u.2 + 6 → P 1595 [.ref 100000, .ref 0, .ref 108, .ref 144, .int (nI i), v5, v6] [] u' (LAY, RFu r', mem')) : P 949 [.ref 100000, .ref 0, .ref 108, .ref 144, .int (nI i), v5, v6] [] u (LAY, RFu r, mem) := by
  have hB' : B + 20000 < 500000000 := by omega
  have hu0 : u.1 ≤ (xAl 242).1 ∧ u.2 ≤ (xAl 242).2 := ⟨by show u.1 ≤ 601024; omega, by show u.2 ≤ 7293033; omega⟩
  have a1 : vp_in (nI i + nI 1) n := vpx (by omega) (by omega)
  have a2 : vp_in (nI i + nI 2) n := vpx (by omega) (by omega)
  have a3 : vp_in (nI i + nI 3) n := vpx (by omega) (by omega)
  have a4 : vp_in (nI i + nI 4) n := vpx (by omega) (by omega)
  refine r_aload_n hP d242_949 rfl ?_
  refine r_aload_n hP d242_950 rfl ?_
  refine r_iload hP d242_951 rfl ?_
  refine r_iconst (v := nI 1) hP d242_953 rfl ?_
  refine r_iadd hP d242_954 ?_
  refine r_sld hP d242_955 a1 ?_
  refine r_aload_n hP d242_956 rfl ?_
  refine r_iload hP d242_957 rfl ?_
  refine r_iconst (v := nI 2) hP d242_959 rfl ?_
  refine r_iadd hP d242_960 ?_
  refine r_sld hP d242_961 a2 ?_
  refine r_aload_n hP d242_962 rfl ?_
  refine r_iload hP d242_963 rfl ?_
  refine r_iconst (v := nI 3) hP d242_965 rfl ?_
  refine r_iadd hP d242_966 ?_
  refine r_sld hP d242_967 a3 ?_
  refine r_callv (M' := 126) (As := [.int (xs (nI i + nI 1).toNatClampNeg), .int (xs (nI i + nI 2).toNatClampNeg), .int (xs (nI i + nI 3).toNatClampNeg)]) (S := []) hP d242_968 (by decide +kernel) (by decide +kernel) rfl (by simp [Value.category]) rfl ly_0 (by simp [Value.category]) hu0 (tk_together (xs (nI i + nI 1).toNatClampNeg) (xs (nI i + nI 2).toNatClampNeg) (xs (nI i + nI 3).toNatClampNeg) N R B r mem _ h hB' (fun w m1 k2 => Bk.i ?_))
  refine r_aload_n hP d242_971 rfl ?_
  refine r_aload_n hP d242_972 rfl ?_
  refine r_iload hP d242_973 rfl ?_
  refine r_iconst (v := nI 1) hP d242_975 rfl ?_
  refine r_iadd hP d242_976 ?_
  refine r_sld hP d242_977 a1 ?_
  refine r_aload_n hP d242_978 rfl ?_
  refine r_iload hP d242_979 rfl ?_
  refine r_iconst (v := nI 2) hP d242_981 rfl ?_
  refine r_iadd hP d242_982 ?_
  refine r_sld hP d242_983 a2 ?_
  refine r_aload_n hP d242_984 rfl ?_
  refine r_iload hP d242_985 rfl ?_
  refine r_iconst (v := nI 3) hP d242_987 rfl ?_
  refine r_iadd hP d242_988 ?_
  refine r_sld hP d242_989 a3 ?_
  refine r_callv (M' := 213) (As := [.int (xs (nI i + nI 1).toNatClampNeg), .int (xs (nI i + nI 2).toNatClampNeg), .int (xs (nI i + nI 3).toNatClampNeg)]) (S := [.int w]) hP d242_990 (by decide +kernel) (by decide +kernel) rfl (by simp [Value.category]) rfl ly_108 (by simp [Value.category]) hu0 (k2 _ fun r2 mem2 h2 => Bk.i ?_)
  refine r_icmp (t := 1595) hP d242_993 (by decide) (fun _ => ?_) (fun z => absurd rfl z)
  exact k _ _ _ _ u h2 (Nat.le_succ _) (Nat.le_add_right _ _)
theorem lw_24 {n : Nat} {xs : Nat → Int32} {P : xPr} {Q : xQr} (hP : Cl 300 (some (n, xs)) 242 P Q) {i r B N R : Nat} {u : Nat × Nat} {v5 v6 : Value} {mem : Nat → Nat → Int32} (hi : i + 5 ≤ n) (hn : n ≤ 2560) (h : RRc mem N R B) (hB : B + 20000 < 60000000) (hu : u.1 + 1 ≤ 601024 ∧ u.2 + 6 ≤ 7293033)
    (k : ∀ r' mem' v5 v6 u', RR (B + 20000) mem' → u'.1 ≤ u.1 + 1 → u'.2 ≤ u.2 + 6 → P 1595 [.ref 100000, .ref 0, .ref 108, .ref 144, .int (nI i), v5, v6] [] u' (LAY, RFu r', mem')) : P 998 [.ref 100000, .ref 0, .ref 108, .ref 144, .int (nI i), v5, v6] [] u (LAY, RFu r, mem) := by
  have hB' : B + 20000 < 500000000 := by omega
  have hu0 : u.1 ≤ (xAl 242).1 ∧ u.2 ≤ (xAl 242).2 := ⟨by show u.1 ≤ 601024; omega, by show u.2 ≤ 7293033; omega⟩
  have a1 : vp_in (nI i + nI 1) n := vpx (by omega) (by omega)
  have a2 : vp_in (nI i + nI 2) n := vpx (by omega) (by omega)
  have a3 : vp_in (nI i + nI 3) n := vpx (by omega) (by omega)
  have a4 : vp_in (nI i + nI 4) n := vpx (by omega) (by omega)
  refine r_aload_n hP d242_998 rfl ?_
  refine r_aload_n hP d242_999 rfl ?_
  refine r_iload hP d242_1000 rfl ?_
  refine r_iconst (v := nI 1) hP d242_1002 rfl ?_
  refine r_iadd hP d242_1003 ?_
  refine r_sld hP d242_1004 a1 ?_
  refine r_aload_n hP d242_1005 rfl ?_
  refine r_iload hP d242_1006 rfl ?_
  refine r_iconst (v := nI 2) hP d242_1008 rfl ?_
  refine r_iadd hP d242_1009 ?_
  refine r_sld hP d242_1010 a2 ?_
  refine r_callv (M' := 127) (As := [.int (xs (nI i + nI 1).toNatClampNeg), .int (xs (nI i + nI 2).toNatClampNeg)]) (S := []) hP d242_1011 (by decide +kernel) (by decide +kernel) rfl (by simp [Value.category]) rfl ly_0 (by simp [Value.category]) hu0 (tk_both (xs (nI i + nI 1).toNatClampNeg) (xs (nI i + nI 2).toNatClampNeg) N R B r mem _ h hB' (fun w m1 k2 => Bk.i ?_))
  refine r_aload_n hP d242_1014 rfl ?_
  refine r_aload_n hP d242_1015 rfl ?_
  refine r_iload hP d242_1016 rfl ?_
  refine r_iconst (v := nI 1) hP d242_1018 rfl ?_
  refine r_iadd hP d242_1019 ?_
  refine r_sld hP d242_1020 a1 ?_
  refine r_aload_n hP d242_1021 rfl ?_
  refine r_iload hP d242_1022 rfl ?_
  refine r_iconst (v := nI 2) hP d242_1024 rfl ?_
  refine r_iadd hP d242_1025 ?_
  refine r_sld hP d242_1026 a2 ?_
  refine r_callv (M' := 214) (As := [.int (xs (nI i + nI 1).toNatClampNeg), .int (xs (nI i + nI 2).toNatClampNeg)]) (S := [.int w]) hP d242_1027 (by decide +kernel) (by decide +kernel) rfl (by simp [Value.category]) rfl ly_108 (by simp [Value.category]) hu0 (k2 _ fun r2 mem2 h2 => Bk.i ?_)
  refine r_icmp (t := 1595) hP d242_1030 (by decide) (fun _ => ?_) (fun z => absurd rfl z)
  exact k _ _ _ _ u h2 (Nat.le_succ _) (Nat.le_add_right _ _)
theorem lw_25 {n : Nat} {xs : Nat → Int32} {P : xPr} {Q : xQr} (hP : Cl 300 (some (n, xs)) 242 P Q) {i r B N R : Nat} {u : Nat × Nat} {v5 v6 : Value} {mem : Nat → Nat → Int32} (hi : i + 5 ≤ n) (hn : n ≤ 2560) (h : RRc mem N R B) (hB : B + 20000 < 60000000) (hu : u.1 + 1 ≤ 601024 ∧ u.2 + 6 ≤ 7293033)
    (k : ∀ r' mem' v5 v6 u', RR (B + 20000) mem' → u'.1 ≤ u.1 + 1 → u'.2 ≤ u.2 + 6 → P 1595 [.ref 100000, .ref 0, .ref 108, .ref 144, .int (nI i), v5, v6] [] u' (LAY, RFu r', mem')) : P 1035 [.ref 100000, .ref 0, .ref 108, .ref 144, .int (nI i), v5, v6] [] u (LAY, RFu r, mem) := by
  have hB' : B + 20000 < 500000000 := by omega
  have hu0 : u.1 ≤ (xAl 242).1 ∧ u.2 ≤ (xAl 242).2 := ⟨by show u.1 ≤ 601024; omega, by show u.2 ≤ 7293033; omega⟩
  have a1 : vp_in (nI i + nI 1) n := vpx (by omega) (by omega)
  have a2 : vp_in (nI i + nI 2) n := vpx (by omega) (by omega)
  have a3 : vp_in (nI i + nI 3) n := vpx (by omega) (by omega)
  have a4 : vp_in (nI i + nI 4) n := vpx (by omega) (by omega)
  refine r_aload_n hP d242_1035 rfl ?_
  refine r_aload_n hP d242_1036 rfl ?_
  refine r_iload hP d242_1037 rfl ?_
  refine r_iconst (v := nI 1) hP d242_1039 rfl ?_
  refine r_iadd hP d242_1040 ?_
  refine r_sld hP d242_1041 a1 ?_
  refine r_aload_n hP d242_1042 rfl ?_
  refine r_iload hP d242_1043 rfl ?_
  refine r_iconst (v := nI 2) hP d242_1045 rfl ?_
  refine r_iadd hP d242_1046 ?_
  refine r_sld hP d242_1047 a2 ?_
  refine r_aload_n hP d242_1048 rfl ?_
  refine r_iload hP d242_1049 rfl ?_
  refine r_iconst (v := nI 3) hP d242_1051 rfl ?_
  refine r_iadd hP d242_1052 ?_
  refine r_sld hP d242_1053 a3 ?_
  refine r_callv (M' := 128) (As := [.int (xs (nI i + nI 1).toNatClampNeg), .int (xs (nI i + nI 2).toNatClampNeg), .int (xs (nI i + nI 3).toNatClampNeg)]) (S := []) hP d242_1054 (by decide +kernel) (by decide +kernel) rfl (by simp [Value.category]) rfl ly_0 (by simp [Value.category]) hu0 (tk_often (xs (nI i + nI 1).toNatClampNeg) (xs (nI i + nI 2).toNatClampNeg) (xs (nI i + nI 3).toNatClampNeg) N R B r mem _ h hB' (fun w m1 k2 => Bk.i ?_))
  refine r_aload_n hP d242_1057 rfl ?_
  refine r_aload_n hP d242_1058 rfl ?_
  refine r_iload hP d242_1059 rfl ?_
  refine r_iconst (v := nI 1) hP d242_1061 rfl ?_
  refine r_iadd hP d242_1062 ?_
  refine r_sld hP d242_1063 a1 ?_
  refine r_aload_n hP d242_1064 rfl ?_
  refine r_iload hP d242_1065 rfl ?_
  refine r_iconst (v := nI 2) hP d242_1067 rfl ?_
  refine r_iadd hP d242_1068 ?_
  refine r_sld hP d242_1069 a2 ?_
  refine r_aload_n hP d242_1070 rfl ?_
  refine r_iload hP d242_1071 rfl ?_
  refine r_iconst (v := nI 3) hP d242_1073 rfl ?_
  refine r_iadd hP d242_1074 ?_
  refine r_sld hP d242_1075 a3 ?_
  refine r_callv (M' := 215) (As := [.int (xs (nI i + nI 1).toNatClampNeg), .int (xs (nI i + nI 2).toNatClampNeg), .int (xs (nI i + nI 3).toNatClampNeg)]) (S := [.int w]) hP d242_1076 (by decide +kernel) (by decide +kernel) rfl (by simp [Value.category]) rfl ly_108 (by simp [Value.category]) hu0 (k2 _ fun r2 mem2 h2 => Bk.i ?_)
  refine r_icmp (t := 1595) hP d242_1079 (by decide) (fun _ => ?_) (fun z => absurd rfl z)
  exact k _ _ _ _ u h2 (Nat.le_succ _) (Nat.le_add_right _ _)
theorem lw_26 {n : Nat} {xs : Nat → Int32} {P : xPr} {Q : xQr} (hP : Cl 300 (some (n, xs)) 242 P Q) {i r B N R : Nat} {u : Nat × Nat} {v5 v6 : Value} {mem : Nat → Nat → Int32} (hi : i + 5 ≤ n) (hn : n ≤ 2560) (h : RRc mem N R B) (hB : B + 20000 < 60000000) (hu : u.1 + 1 ≤ 601024 ∧ u.2 + 6 ≤ 7293033)
    (k : ∀ r' mem' v5 v6 u', RR (B + 20000) mem' → u'.1 ≤ u.1 + 1 → u'.2 ≤ u.2 + 6 → P 1595 [.ref 100000, .ref 0, .ref 108, .ref 144, .int (nI i), v5, v6] [] u' (LAY, RFu r', mem')) : P 1084 [.ref 100000, .ref 0, .ref 108, .ref 144, .int (nI i), v5, v6] [] u (LAY, RFu r, mem) := by
  have hB' : B + 20000 < 500000000 := by omega
  have hu0 : u.1 ≤ (xAl 242).1 ∧ u.2 ≤ (xAl 242).2 := ⟨by show u.1 ≤ 601024; omega, by show u.2 ≤ 7293033; omega⟩
  have a1 : vp_in (nI i + nI 1) n := vpx (by omega) (by omega)
  have a2 : vp_in (nI i + nI 2) n := vpx (by omega) (by omega)
  have a3 : vp_in (nI i + nI 3) n := vpx (by omega) (by omega)
  have a4 : vp_in (nI i + nI 4) n := vpx (by omega) (by omega)
  refine r_aload_n hP d242_1084 rfl ?_
  refine r_aload_n hP d242_1085 rfl ?_
  refine r_iload hP d242_1086 rfl ?_
  refine r_iconst (v := nI 1) hP d242_1088 rfl ?_
  refine r_iadd hP d242_1089 ?_
  refine r_sld hP d242_1090 a1 ?_
  refine r_aload_n hP d242_1091 rfl ?_
  refine r_iload hP d242_1092 rfl ?_
  refine r_iconst (v := nI 2) hP d242_1094 rfl ?_
  refine r_iadd hP d242_1095 ?_
  refine r_sld hP d242_1096 a2 ?_
  refine r_callv (M' := 129) (As := [.int (xs (nI i + nI 1).toNatClampNeg), .int (xs (nI i + nI 2).toNatClampNeg)]) (S := []) hP d242_1097 (by decide +kernel) (by decide +kernel) rfl (by simp [Value.category]) rfl ly_0 (by simp [Value.category]) hu0 (tk_swap (xs (nI i + nI 1).toNatClampNeg) (xs (nI i + nI 2).toNatClampNeg) N R B r mem _ h hB' (fun w m1 k2 => Bk.i ?_))
  refine r_aload_n hP d242_1100 rfl ?_
  refine r_aload_n hP d242_1101 rfl ?_
  refine r_iload hP d242_1102 rfl ?_
  refine r_iconst (v := nI 1) hP d242_1104 rfl ?_
  refine r_iadd hP d242_1105 ?_
  refine r_sld hP d242_1106 a1 ?_
  refine r_aload_n hP d242_1107 rfl ?_
  refine r_iload hP d242_1108 rfl ?_
  refine r_iconst (v := nI 2) hP d242_1110 rfl ?_
  refine r_iadd hP d242_1111 ?_
  refine r_sld hP d242_1112 a2 ?_
  refine r_callv (M' := 217) (As := [.int (xs (nI i + nI 1).toNatClampNeg), .int (xs (nI i + nI 2).toNatClampNeg)]) (S := [.int w]) hP d242_1113 (by decide +kernel) (by decide +kernel) rfl (by simp [Value.category]) rfl ly_108 (by simp [Value.category]) hu0 (k2 _ fun r2 mem2 h2 => Bk.i ?_)
  refine r_icmp (t := 1595) hP d242_1116 (by decide) (fun _ => ?_) (fun z => absurd rfl z)
  exact k _ _ _ _ u h2 (Nat.le_succ _) (Nat.le_add_right _ _)
theorem lw_27 {n : Nat} {xs : Nat → Int32} {P : xPr} {Q : xQr} (hP : Cl 300 (some (n, xs)) 242 P Q) {i r B N R : Nat} {u : Nat × Nat} {v5 v6 : Value} {mem : Nat → Nat → Int32} (hi : i + 5 ≤ n) (hn : n ≤ 2560) (h : RRc mem N R B) (hB : B + 20000 < 60000000) (hu : u.1 + 1 ≤ 601024 ∧ u.2 + 6 ≤ 7293033)
    (k : ∀ r' mem' v5 v6 u', RR (B + 20000) mem' → u'.1 ≤ u.1 + 1 → u'.2 ≤ u.2 + 6 → P 1595 [.ref 100000, .ref 0, .ref 108, .ref 144, .int (nI i), v5, v6] [] u' (LAY, RFu r', mem')) : P 1121 [.ref 100000, .ref 0, .ref 108, .ref 144, .int (nI i), v5, v6] [] u (LAY, RFu r, mem) := by
  have hB' : B + 20000 < 500000000 := by omega
  have hu0 : u.1 ≤ (xAl 242).1 ∧ u.2 ≤ (xAl 242).2 := ⟨by show u.1 ≤ 601024; omega, by show u.2 ≤ 7293033; omega⟩
  have a1 : vp_in (nI i + nI 1) n := vpx (by omega) (by omega)
  have a2 : vp_in (nI i + nI 2) n := vpx (by omega) (by omega)
  have a3 : vp_in (nI i + nI 3) n := vpx (by omega) (by omega)
  have a4 : vp_in (nI i + nI 4) n := vpx (by omega) (by omega)
  refine r_aload_n hP d242_1121 rfl ?_
  refine r_aload_n hP d242_1122 rfl ?_
  refine r_iload hP d242_1123 rfl ?_
  refine r_iconst (v := nI 1) hP d242_1125 rfl ?_
  refine r_iadd hP d242_1126 ?_
  refine r_sld hP d242_1127 a1 ?_
  refine r_callv (M' := 130) (As := [.int (xs (nI i + nI 1).toNatClampNeg)]) (S := []) hP d242_1128 (by decide +kernel) (by decide +kernel) rfl (by simp [Value.category]) rfl ly_0 (by simp [Value.category]) hu0 (tk_exchange (xs (nI i + nI 1).toNatClampNeg) N R B r mem _ h hB' (fun w m1 k2 => Bk.i ?_))
  refine r_aload_n hP d242_1131 rfl ?_
  refine r_aload_n hP d242_1132 rfl ?_
  refine r_iload hP d242_1133 rfl ?_
  refine r_iconst (v := nI 1) hP d242_1135 rfl ?_
  refine r_iadd hP d242_1136 ?_
  refine r_sld hP d242_1137 a1 ?_
  refine r_callv (M' := 218) (As := [.int (xs (nI i + nI 1).toNatClampNeg)]) (S := [.int w]) hP d242_1138 (by decide +kernel) (by decide +kernel) rfl (by simp [Value.category]) rfl ly_108 (by simp [Value.category]) hu0 (k2 _ fun r2 mem2 h2 => Bk.i ?_)
  refine r_icmp (t := 1595) hP d242_1141 (by decide) (fun _ => ?_) (fun z => absurd rfl z)
  exact k _ _ _ _ u h2 (Nat.le_succ _) (Nat.le_add_right _ _)
theorem lw_28 {n : Nat} {xs : Nat → Int32} {P : xPr} {Q : xQr} (hP : Cl 300 (some (n, xs)) 242 P Q) {i r B N R : Nat} {u : Nat × Nat} {v5 v6 : Value} {mem : Nat → Nat → Int32} (hi : i + 5 ≤ n) (hn : n ≤ 2560) (h : RRc mem N R B) (hB : B + 20000 < 60000000) (hu : u.1 + 1 ≤ 601024 ∧ u.2 + 6 ≤ 7293033)
    (k : ∀ r' mem' v5 v6 u', RR (B + 20000) mem' → u'.1 ≤ u.1 + 1 → u'.2 ≤ u.2 + 6 → P 1595 [.ref 100000, .ref 0, .ref 108, .ref 144, .int (nI i), v5, v6] [] u' (LAY, RFu r', mem')) : P 1146 [.ref 100000, .ref 0, .ref 108, .ref 144, .int (nI i), v5, v6] [] u (LAY, RFu r, mem) := by
  have hB' : B + 20000 < 500000000 := by omega
  have hu0 : u.1 ≤ (xAl 242).1 ∧ u.2 ≤ (xAl 242).2 := ⟨by show u.1 ≤ 601024; omega, by show u.2 ≤ 7293033; omega⟩
  have a1 : vp_in (nI i + nI 1) n := vpx (by omega) (by omega)
  have a2 : vp_in (nI i + nI 2) n := vpx (by omega) (by omega)
  have a3 : vp_in (nI i + nI 3) n := vpx (by omega) (by omega)
  have a4 : vp_in (nI i + nI 4) n := vpx (by omega) (by omega)
  refine r_aload_n hP d242_1146 rfl ?_
  refine r_aload_n hP d242_1147 rfl ?_
  refine r_iload hP d242_1148 rfl ?_
  refine r_iconst (v := nI 1) hP d242_1150 rfl ?_
  refine r_iadd hP d242_1151 ?_
  refine r_sld hP d242_1152 a1 ?_
  refine r_aload_n hP d242_1153 rfl ?_
  refine r_iload hP d242_1154 rfl ?_
  refine r_iconst (v := nI 2) hP d242_1156 rfl ?_
  refine r_iadd hP d242_1157 ?_
  refine r_sld hP d242_1158 a2 ?_
  refine r_callv (M' := 131) (As := [.int (xs (nI i + nI 1).toNatClampNeg), .int (xs (nI i + nI 2).toNatClampNeg)]) (S := []) hP d242_1159 (by decide +kernel) (by decide +kernel) rfl (by simp [Value.category]) rfl ly_0 (by simp [Value.category]) hu0 (tk_delay (xs (nI i + nI 1).toNatClampNeg) (xs (nI i + nI 2).toNatClampNeg) N R B r mem _ h hB' (fun w m1 k2 => Bk.i ?_))
  refine r_aload_n hP d242_1162 rfl ?_
  refine r_aload_n hP d242_1163 rfl ?_
  refine r_iload hP d242_1164 rfl ?_
  refine r_iconst (v := nI 1) hP d242_1166 rfl ?_
  refine r_iadd hP d242_1167 ?_
  refine r_sld hP d242_1168 a1 ?_
  refine r_aload_n hP d242_1169 rfl ?_
  refine r_iload hP d242_1170 rfl ?_
  refine r_iconst (v := nI 2) hP d242_1172 rfl ?_
  refine r_iadd hP d242_1173 ?_
  refine r_sld hP d242_1174 a2 ?_
  refine r_callv (M' := 219) (As := [.int (xs (nI i + nI 1).toNatClampNeg), .int (xs (nI i + nI 2).toNatClampNeg)]) (S := [.int w]) hP d242_1175 (by decide +kernel) (by decide +kernel) rfl (by simp [Value.category]) rfl ly_108 (by simp [Value.category]) hu0 (k2 _ fun r2 mem2 h2 => Bk.i ?_)
  refine r_icmp (t := 1595) hP d242_1178 (by decide) (fun _ => ?_) (fun z => absurd rfl z)
  exact k _ _ _ _ u h2 (Nat.le_succ _) (Nat.le_add_right _ _)
theorem lw_29 {n : Nat} {xs : Nat → Int32} {P : xPr} {Q : xQr} (hP : Cl 300 (some (n, xs)) 242 P Q) {i r B N R : Nat} {u : Nat × Nat} {v5 v6 : Value} {mem : Nat → Nat → Int32} (hi : i + 5 ≤ n) (hn : n ≤ 2560) (h : RRc mem N R B) (hB : B + 20000 < 60000000) (hu : u.1 + 1 ≤ 601024 ∧ u.2 + 6 ≤ 7293033)
    (k : ∀ r' mem' v5 v6 u', RR (B + 20000) mem' → u'.1 ≤ u.1 + 1 → u'.2 ≤ u.2 + 6 → P 1595 [.ref 100000, .ref 0, .ref 108, .ref 144, .int (nI i), v5, v6] [] u' (LAY, RFu r', mem')) : P 1183 [.ref 100000, .ref 0, .ref 108, .ref 144, .int (nI i), v5, v6] [] u (LAY, RFu r, mem) := by
  have hB' : B + 20000 < 500000000 := by omega
  have hu0 : u.1 ≤ (xAl 242).1 ∧ u.2 ≤ (xAl 242).2 := ⟨by show u.1 ≤ 601024; omega, by show u.2 ≤ 7293033; omega⟩
  have a1 : vp_in (nI i + nI 1) n := vpx (by omega) (by omega)
  have a2 : vp_in (nI i + nI 2) n := vpx (by omega) (by omega)
  have a3 : vp_in (nI i + nI 3) n := vpx (by omega) (by omega)
  have a4 : vp_in (nI i + nI 4) n := vpx (by omega) (by omega)
  refine r_aload_n hP d242_1183 rfl ?_
  refine r_aload_n hP d242_1184 rfl ?_
  refine r_iload hP d242_1185 rfl ?_
  refine r_iconst (v := nI 1) hP d242_1187 rfl ?_
  refine r_iadd hP d242_1188 ?_
  refine r_sld hP d242_1189 a1 ?_
  refine r_callv (M' := 132) (As := [.int (xs (nI i + nI 1).toNatClampNeg)]) (S := []) hP d242_1190 (by decide +kernel) (by decide +kernel) rfl (by simp [Value.category]) rfl ly_0 (by simp [Value.category]) hu0 (tk_crowd (xs (nI i + nI 1).toNatClampNeg) N R B r mem _ h hB' (fun w m1 k2 => Bk.i ?_))
  refine r_aload_n hP d242_1193 rfl ?_
  refine r_aload_n hP d242_1194 rfl ?_
  refine r_iload hP d242_1195 rfl ?_
  refine r_iconst (v := nI 1) hP d242_1197 rfl ?_
  refine r_iadd hP d242_1198 ?_
  refine r_sld hP d242_1199 a1 ?_
  refine r_callv (M' := 220) (As := [.int (xs (nI i + nI 1).toNatClampNeg)]) (S := [.int w]) hP d242_1200 (by decide +kernel) (by decide +kernel) rfl (by simp [Value.category]) rfl ly_108 (by simp [Value.category]) hu0 (k2 _ fun r2 mem2 h2 => Bk.i ?_)
  refine r_icmp (t := 1595) hP d242_1203 (by decide) (fun _ => ?_) (fun z => absurd rfl z)
  exact k _ _ _ _ u h2 (Nat.le_succ _) (Nat.le_add_right _ _)
theorem lw_30 {n : Nat} {xs : Nat → Int32} {P : xPr} {Q : xQr} (hP : Cl 300 (some (n, xs)) 242 P Q) {i r B N R : Nat} {u : Nat × Nat} {v5 v6 : Value} {mem : Nat → Nat → Int32} (hi : i + 5 ≤ n) (hn : n ≤ 2560) (h : RRc mem N R B) (hB : B + 20000 < 60000000) (hu : u.1 + 1 ≤ 601024 ∧ u.2 + 6 ≤ 7293033)
    (k : ∀ r' mem' v5 v6 u', RR (B + 20000) mem' → u'.1 ≤ u.1 + 1 → u'.2 ≤ u.2 + 6 → P 1595 [.ref 100000, .ref 0, .ref 108, .ref 144, .int (nI i), v5, v6] [] u' (LAY, RFu r', mem')) : P 1208 [.ref 100000, .ref 0, .ref 108, .ref 144, .int (nI i), v5, v6] [] u (LAY, RFu r, mem) := by
  have hB' : B + 20000 < 500000000 := by omega
  have hu0 : u.1 ≤ (xAl 242).1 ∧ u.2 ≤ (xAl 242).2 := ⟨by show u.1 ≤ 601024; omega, by show u.2 ≤ 7293033; omega⟩
  have a1 : vp_in (nI i + nI 1) n := vpx (by omega) (by omega)
  have a2 : vp_in (nI i + nI 2) n := vpx (by omega) (by omega)
  have a3 : vp_in (nI i + nI 3) n := vpx (by omega) (by omega)
  have a4 : vp_in (nI i + nI 4) n := vpx (by omega) (by omega)
  refine r_aload_n hP d242_1208 rfl ?_
  refine r_aload_n hP d242_1209 rfl ?_
  refine r_iload hP d242_1210 rfl ?_
  refine r_iconst (v := nI 1) hP d242_1212 rfl ?_
  refine r_iadd hP d242_1213 ?_
  refine r_sld hP d242_1214 a1 ?_
  refine r_callv (M' := 133) (As := [.int (xs (nI i + nI 1).toNatClampNeg)]) (S := []) hP d242_1215 (by decide +kernel) (by decide +kernel) rfl (by simp [Value.category]) rfl ly_0 (by simp [Value.category]) hu0 (tk_calm (xs (nI i + nI 1).toNatClampNeg) N R B r mem _ h hB' (fun w m1 k2 => Bk.i ?_))
  refine r_aload_n hP d242_1218 rfl ?_
  refine r_aload_n hP d242_1219 rfl ?_
  refine r_iload hP d242_1220 rfl ?_
  refine r_iconst (v := nI 1) hP d242_1222 rfl ?_
  refine r_iadd hP d242_1223 ?_
  refine r_sld hP d242_1224 a1 ?_
  refine r_callv (M' := 221) (As := [.int (xs (nI i + nI 1).toNatClampNeg)]) (S := [.int w]) hP d242_1225 (by decide +kernel) (by decide +kernel) rfl (by simp [Value.category]) rfl ly_108 (by simp [Value.category]) hu0 (k2 _ fun r2 mem2 h2 => Bk.i ?_)
  refine r_icmp (t := 1595) hP d242_1228 (by decide) (fun _ => ?_) (fun z => absurd rfl z)
  exact k _ _ _ _ u h2 (Nat.le_succ _) (Nat.le_add_right _ _)
theorem lw_31 {n : Nat} {xs : Nat → Int32} {P : xPr} {Q : xQr} (hP : Cl 300 (some (n, xs)) 242 P Q) {i r B N R : Nat} {u : Nat × Nat} {v5 v6 : Value} {mem : Nat → Nat → Int32} (hi : i + 5 ≤ n) (hn : n ≤ 2560) (h : RRc mem N R B) (hB : B + 20000 < 60000000) (hu : u.1 + 1 ≤ 601024 ∧ u.2 + 6 ≤ 7293033)
    (k : ∀ r' mem' v5 v6 u', RR (B + 20000) mem' → u'.1 ≤ u.1 + 1 → u'.2 ≤ u.2 + 6 → P 1595 [.ref 100000, .ref 0, .ref 108, .ref 144, .int (nI i), v5, v6] [] u' (LAY, RFu r', mem')) : P 1233 [.ref 100000, .ref 0, .ref 108, .ref 144, .int (nI i), v5, v6] [] u (LAY, RFu r, mem) := by
  have hB' : B + 20000 < 500000000 := by omega
  have hu0 : u.1 ≤ (xAl 242).1 ∧ u.2 ≤ (xAl 242).2 := ⟨by show u.1 ≤ 601024; omega, by show u.2 ≤ 7293033; omega⟩
  have a1 : vp_in (nI i + nI 1) n := vpx (by omega) (by omega)
  have a2 : vp_in (nI i + nI 2) n := vpx (by omega) (by omega)
  have a3 : vp_in (nI i + nI 3) n := vpx (by omega) (by omega)
  have a4 : vp_in (nI i + nI 4) n := vpx (by omega) (by omega)
  refine r_aload_n hP d242_1233 rfl ?_
  refine r_aload_n hP d242_1234 rfl ?_
  refine r_iload hP d242_1235 rfl ?_
  refine r_iconst (v := nI 1) hP d242_1237 rfl ?_
  refine r_iadd hP d242_1238 ?_
  refine r_sld hP d242_1239 a1 ?_
  refine r_callv (M' := 134) (As := [.int (xs (nI i + nI 1).toNatClampNeg)]) (S := []) hP d242_1240 (by decide +kernel) (by decide +kernel) rfl (by simp [Value.category]) rfl ly_0 (by simp [Value.category]) hu0 (tk_more (xs (nI i + nI 1).toNatClampNeg) N R B r mem _ h hB' (fun w m1 k2 => Bk.i ?_))
  refine r_aload_n hP d242_1243 rfl ?_
  refine r_aload_n hP d242_1244 rfl ?_
  refine r_iload hP d242_1245 rfl ?_
  refine r_iconst (v := nI 1) hP d242_1247 rfl ?_
  refine r_iadd hP d242_1248 ?_
  refine r_sld hP d242_1249 a1 ?_
  refine r_callv (M' := 223) (As := [.int (xs (nI i + nI 1).toNatClampNeg)]) (S := [.int w]) hP d242_1250 (by decide +kernel) (by decide +kernel) rfl (by simp [Value.category]) rfl ly_108 (by simp [Value.category]) hu0 (k2 _ fun r2 mem2 h2 => Bk.i ?_)
  refine r_icmp (t := 1595) hP d242_1253 (by decide) (fun _ => ?_) (fun z => absurd rfl z)
  exact k _ _ _ _ u h2 (Nat.le_succ _) (Nat.le_add_right _ _)
theorem lw_32 {n : Nat} {xs : Nat → Int32} {P : xPr} {Q : xQr} (hP : Cl 300 (some (n, xs)) 242 P Q) {i r B N R : Nat} {u : Nat × Nat} {v5 v6 : Value} {mem : Nat → Nat → Int32} (hi : i + 5 ≤ n) (hn : n ≤ 2560) (h : RRc mem N R B) (hB : B + 20000 < 60000000) (hu : u.1 + 1 ≤ 601024 ∧ u.2 + 6 ≤ 7293033)
    (k : ∀ r' mem' v5 v6 u', RR (B + 20000) mem' → u'.1 ≤ u.1 + 1 → u'.2 ≤ u.2 + 6 → P 1595 [.ref 100000, .ref 0, .ref 108, .ref 144, .int (nI i), v5, v6] [] u' (LAY, RFu r', mem')) : P 1258 [.ref 100000, .ref 0, .ref 108, .ref 144, .int (nI i), v5, v6] [] u (LAY, RFu r, mem) := by
  have hB' : B + 20000 < 500000000 := by omega
  have hu0 : u.1 ≤ (xAl 242).1 ∧ u.2 ≤ (xAl 242).2 := ⟨by show u.1 ≤ 601024; omega, by show u.2 ≤ 7293033; omega⟩
  have a1 : vp_in (nI i + nI 1) n := vpx (by omega) (by omega)
  have a2 : vp_in (nI i + nI 2) n := vpx (by omega) (by omega)
  have a3 : vp_in (nI i + nI 3) n := vpx (by omega) (by omega)
  have a4 : vp_in (nI i + nI 4) n := vpx (by omega) (by omega)
  refine r_aload_n hP d242_1258 rfl ?_
  refine r_aload_n hP d242_1259 rfl ?_
  refine r_iload hP d242_1260 rfl ?_
  refine r_iconst (v := nI 1) hP d242_1262 rfl ?_
  refine r_iadd hP d242_1263 ?_
  refine r_sld hP d242_1264 a1 ?_
  refine r_callv (M' := 136) (As := [.int (xs (nI i + nI 1).toNatClampNeg)]) (S := []) hP d242_1265 (by decide +kernel) (by decide +kernel) rfl (by simp [Value.category]) rfl ly_0 (by simp [Value.category]) hu0 (tk_feast (xs (nI i + nI 1).toNatClampNeg) N R B r mem _ h hB' (fun w m1 k2 => Bk.i ?_))
  refine r_aload_n hP d242_1268 rfl ?_
  refine r_aload_n hP d242_1269 rfl ?_
  refine r_iload hP d242_1270 rfl ?_
  refine r_iconst (v := nI 1) hP d242_1272 rfl ?_
  refine r_iadd hP d242_1273 ?_
  refine r_sld hP d242_1274 a1 ?_
  refine r_callv (M' := 224) (As := [.int (xs (nI i + nI 1).toNatClampNeg)]) (S := [.int w]) hP d242_1275 (by decide +kernel) (by decide +kernel) rfl (by simp [Value.category]) rfl ly_108 (by simp [Value.category]) hu0 (k2 _ fun r2 mem2 h2 => Bk.i ?_)
  refine r_icmp (t := 1595) hP d242_1278 (by decide) (fun _ => ?_) (fun z => absurd rfl z)
  exact k _ _ _ _ u h2 (Nat.le_succ _) (Nat.le_add_right _ _)
theorem lw_33 {n : Nat} {xs : Nat → Int32} {P : xPr} {Q : xQr} (hP : Cl 300 (some (n, xs)) 242 P Q) {i r B N R : Nat} {u : Nat × Nat} {v5 v6 : Value} {mem : Nat → Nat → Int32} (hi : i + 5 ≤ n) (hn : n ≤ 2560) (h : RRc mem N R B) (hB : B + 20000 < 60000000) (hu : u.1 + 1 ≤ 601024 ∧ u.2 + 6 ≤ 7293033)
    (k : ∀ r' mem' v5 v6 u', RR (B + 20000) mem' → u'.1 ≤ u.1 + 1 → u'.2 ≤ u.2 + 6 → P 1595 [.ref 100000, .ref 0, .ref 108, .ref 144, .int (nI i), v5, v6] [] u' (LAY, RFu r', mem')) : P 1283 [.ref 100000, .ref 0, .ref 108, .ref 144, .int (nI i), v5, v6] [] u (LAY, RFu r, mem) := by
  have hB' : B + 20000 < 500000000 := by omega
  have hu0 : u.1 ≤ (xAl 242).1 ∧ u.2 ≤ (xAl 242).2 := ⟨by show u.1 ≤ 601024; omega, by show u.2 ≤ 7293033; omega⟩
  have a1 : vp_in (nI i + nI 1) n := vpx (by omega) (by omega)
  have a2 : vp_in (nI i + nI 2) n := vpx (by omega) (by omega)
  have a3 : vp_in (nI i + nI 3) n := vpx (by omega) (by omega)
  have a4 : vp_in (nI i + nI 4) n := vpx (by omega) (by omega)
  refine r_aload_n hP d242_1283 rfl ?_
  refine r_aload_n hP d242_1284 rfl ?_
  refine r_iload hP d242_1285 rfl ?_
  refine r_iconst (v := nI 1) hP d242_1287 rfl ?_
  refine r_iadd hP d242_1288 ?_
  refine r_sld hP d242_1289 a1 ?_
  refine r_aload_n hP d242_1290 rfl ?_
  refine r_iload hP d242_1291 rfl ?_
  refine r_iconst (v := nI 2) hP d242_1293 rfl ?_
  refine r_iadd hP d242_1294 ?_
  refine r_sld hP d242_1295 a2 ?_
  refine r_callv (M' := 137) (As := [.int (xs (nI i + nI 1).toNatClampNeg), .int (xs (nI i + nI 2).toNatClampNeg)]) (S := []) hP d242_1296 (by decide +kernel) (by decide +kernel) rfl (by simp [Value.category]) rfl ly_0 (by simp [Value.category]) hu0 (tk_told (xs (nI i + nI 1).toNatClampNeg) (xs (nI i + nI 2).toNatClampNeg) N R B r mem _ h hB' (fun w m1 k2 => Bk.i ?_))
  refine r_aload_n hP d242_1299 rfl ?_
  refine r_aload_n hP d242_1300 rfl ?_
  refine r_iload hP d242_1301 rfl ?_
  refine r_iconst (v := nI 1) hP d242_1303 rfl ?_
  refine r_iadd hP d242_1304 ?_
  refine r_sld hP d242_1305 a1 ?_
  refine r_aload_n hP d242_1306 rfl ?_
  refine r_iload hP d242_1307 rfl ?_
  refine r_iconst (v := nI 2) hP d242_1309 rfl ?_
  refine r_iadd hP d242_1310 ?_
  refine r_sld hP d242_1311 a2 ?_
  refine r_callv (M' := 225) (As := [.int (xs (nI i + nI 1).toNatClampNeg), .int (xs (nI i + nI 2).toNatClampNeg)]) (S := [.int w]) hP d242_1312 (by decide +kernel) (by decide +kernel) rfl (by simp [Value.category]) rfl ly_108 (by simp [Value.category]) hu0 (k2 _ fun r2 mem2 h2 => Bk.i ?_)
  refine r_icmp (t := 1595) hP d242_1315 (by decide) (fun _ => ?_) (fun z => absurd rfl z)
  exact k _ _ _ _ u h2 (Nat.le_succ _) (Nat.le_add_right _ _)
theorem lw_34 {n : Nat} {xs : Nat → Int32} {P : xPr} {Q : xQr} (hP : Cl 300 (some (n, xs)) 242 P Q) {i r B N R : Nat} {u : Nat × Nat} {v5 v6 : Value} {mem : Nat → Nat → Int32} (hi : i + 5 ≤ n) (hn : n ≤ 2560) (h : RRc mem N R B) (hB : B + 20000 < 60000000) (hu : u.1 + 1 ≤ 601024 ∧ u.2 + 6 ≤ 7293033)
    (k : ∀ r' mem' v5 v6 u', RR (B + 20000) mem' → u'.1 ≤ u.1 + 1 → u'.2 ≤ u.2 + 6 → P 1595 [.ref 100000, .ref 0, .ref 108, .ref 144, .int (nI i), v5, v6] [] u' (LAY, RFu r', mem')) : P 1320 [.ref 100000, .ref 0, .ref 108, .ref 144, .int (nI i), v5, v6] [] u (LAY, RFu r, mem) := by
  have hB' : B + 20000 < 500000000 := by omega
  have hu0 : u.1 ≤ (xAl 242).1 ∧ u.2 ≤ (xAl 242).2 := ⟨by show u.1 ≤ 601024; omega, by show u.2 ≤ 7293033; omega⟩
  have a1 : vp_in (nI i + nI 1) n := vpx (by omega) (by omega)
  have a2 : vp_in (nI i + nI 2) n := vpx (by omega) (by omega)
  have a3 : vp_in (nI i + nI 3) n := vpx (by omega) (by omega)
  have a4 : vp_in (nI i + nI 4) n := vpx (by omega) (by omega)
  refine r_aload_n hP d242_1320 rfl ?_
  refine r_callv (M' := 138) (As := []) (S := []) hP d242_1321 (by decide +kernel) (by decide +kernel) rfl (by simp) rfl ly_0 (by simp [Value.category]) hu0 (tk_forget  N R B r mem _ h hB' (fun w m1 k2 => Bk.i ?_))
  refine r_aload_n hP d242_1324 rfl ?_
  refine r_callv (M' := 226) (As := []) (S := [.int w]) hP d242_1325 (by decide +kernel) (by decide +kernel) rfl (by simp) rfl ly_108 (by simp [Value.category]) hu0 (k2 _ fun r2 mem2 h2 => Bk.i ?_)
  refine r_icmp (t := 1595) hP d242_1328 (by decide) (fun _ => ?_) (fun z => absurd rfl z)
  exact k _ _ _ _ u h2 (Nat.le_succ _) (Nat.le_add_right _ _)
theorem lw_35 {n : Nat} {xs : Nat → Int32} {P : xPr} {Q : xQr} (hP : Cl 300 (some (n, xs)) 242 P Q) {i r B N R : Nat} {u : Nat × Nat} {v5 v6 : Value} {mem : Nat → Nat → Int32} (hi : i + 5 ≤ n) (hn : n ≤ 2560) (h : RRc mem N R B) (hB : B + 20000 < 60000000) (hu : u.1 + 1 ≤ 601024 ∧ u.2 + 6 ≤ 7293033)
    (k : ∀ r' mem' v5 v6 u', RR (B + 20000) mem' → u'.1 ≤ u.1 + 1 → u'.2 ≤ u.2 + 6 → P 1595 [.ref 100000, .ref 0, .ref 108, .ref 144, .int (nI i), v5, v6] [] u' (LAY, RFu r', mem')) : P 1333 [.ref 100000, .ref 0, .ref 108, .ref 144, .int (nI i), v5, v6] [] u (LAY, RFu r, mem) := by
  have hB' : B + 20000 < 500000000 := by omega
  have hu0 : u.1 ≤ (xAl 242).1 ∧ u.2 ≤ (xAl 242).2 := ⟨by show u.1 ≤ 601024; omega, by show u.2 ≤ 7293033; omega⟩
  have a1 : vp_in (nI i + nI 1) n := vpx (by omega) (by omega)
  have a2 : vp_in (nI i + nI 2) n := vpx (by omega) (by omega)
  have a3 : vp_in (nI i + nI 3) n := vpx (by omega) (by omega)
  have a4 : vp_in (nI i + nI 4) n := vpx (by omega) (by omega)
  refine r_aload_n hP d242_1333 rfl ?_
  refine r_aload_n hP d242_1334 rfl ?_
  refine r_iload hP d242_1335 rfl ?_
  refine r_iconst (v := nI 1) hP d242_1337 rfl ?_
  refine r_iadd hP d242_1338 ?_
  refine r_sld hP d242_1339 a1 ?_
  refine r_callv (M' := 139) (As := [.int (xs (nI i + nI 1).toNatClampNeg)]) (S := []) hP d242_1340 (by decide +kernel) (by decide +kernel) rfl (by simp [Value.category]) rfl ly_0 (by simp [Value.category]) hu0 (tk_stolen (xs (nI i + nI 1).toNatClampNeg) N R B r mem _ h hB' (fun w m1 k2 => Bk.i ?_))
  refine r_aload_n hP d242_1343 rfl ?_
  refine r_aload_n hP d242_1344 rfl ?_
  refine r_iload hP d242_1345 rfl ?_
  refine r_iconst (v := nI 1) hP d242_1347 rfl ?_
  refine r_iadd hP d242_1348 ?_
  refine r_sld hP d242_1349 a1 ?_
  refine r_callv (M' := 228) (As := [.int (xs (nI i + nI 1).toNatClampNeg)]) (S := [.int w]) hP d242_1350 (by decide +kernel) (by decide +kernel) rfl (by simp [Value.category]) rfl ly_108 (by simp [Value.category]) hu0 (k2 _ fun r2 mem2 h2 => Bk.i ?_)
  refine r_icmp (t := 1595) hP d242_1353 (by decide) (fun _ => ?_) (fun z => absurd rfl z)
  exact k _ _ _ _ u h2 (Nat.le_succ _) (Nat.le_add_right _ _)
theorem lw_36 {n : Nat} {xs : Nat → Int32} {P : xPr} {Q : xQr} (hP : Cl 300 (some (n, xs)) 242 P Q) {i r B N R : Nat} {u : Nat × Nat} {v5 v6 : Value} {mem : Nat → Nat → Int32} (hi : i + 5 ≤ n) (hn : n ≤ 2560) (h : RRc mem N R B) (hB : B + 20000 < 60000000) (hu : u.1 + 1 ≤ 601024 ∧ u.2 + 6 ≤ 7293033)
    (k : ∀ r' mem' v5 v6 u', RR (B + 20000) mem' → u'.1 ≤ u.1 + 1 → u'.2 ≤ u.2 + 6 → P 1595 [.ref 100000, .ref 0, .ref 108, .ref 144, .int (nI i), v5, v6] [] u' (LAY, RFu r', mem')) : P 1358 [.ref 100000, .ref 0, .ref 108, .ref 144, .int (nI i), v5, v6] [] u (LAY, RFu r, mem) := by
  have hB' : B + 20000 < 500000000 := by omega
  have hu0 : u.1 ≤ (xAl 242).1 ∧ u.2 ≤ (xAl 242).2 := ⟨by show u.1 ≤ 601024; omega, by show u.2 ≤ 7293033; omega⟩
  have a1 : vp_in (nI i + nI 1) n := vpx (by omega) (by omega)
  have a2 : vp_in (nI i + nI 2) n := vpx (by omega) (by omega)
  have a3 : vp_in (nI i + nI 3) n := vpx (by omega) (by omega)
  have a4 : vp_in (nI i + nI 4) n := vpx (by omega) (by omega)
  refine r_aload_n hP d242_1358 rfl ?_
  refine r_aload_n hP d242_1359 rfl ?_
  refine r_iload hP d242_1360 rfl ?_
  refine r_iconst (v := nI 1) hP d242_1362 rfl ?_
  refine r_iadd hP d242_1363 ?_
  refine r_sld hP d242_1364 a1 ?_
  refine r_callv (M' := 141) (As := [.int (xs (nI i + nI 1).toNatClampNeg)]) (S := []) hP d242_1365 (by decide +kernel) (by decide +kernel) rfl (by simp [Value.category]) rfl ly_0 (by simp [Value.category]) hu0 (tk_even (xs (nI i + nI 1).toNatClampNeg) N R B r mem _ h hB' (fun w m1 k2 => Bk.i ?_))
  refine r_aload_n hP d242_1368 rfl ?_
  refine r_aload_n hP d242_1369 rfl ?_
  refine r_iload hP d242_1370 rfl ?_
  refine r_iconst (v := nI 1) hP d242_1372 rfl ?_
  refine r_iadd hP d242_1373 ?_
  refine r_sld hP d242_1374 a1 ?_
  refine r_callv (M' := 229) (As := [.int (xs (nI i + nI 1).toNatClampNeg)]) (S := [.int w]) hP d242_1375 (by decide +kernel) (by decide +kernel) rfl (by simp [Value.category]) rfl ly_108 (by simp [Value.category]) hu0 (k2 _ fun r2 mem2 h2 => Bk.i ?_)
  refine r_icmp (t := 1595) hP d242_1378 (by decide) (fun _ => ?_) (fun z => absurd rfl z)
  exact k _ _ _ _ u h2 (Nat.le_succ _) (Nat.le_add_right _ _)
theorem lw_37 {n : Nat} {xs : Nat → Int32} {P : xPr} {Q : xQr} (hP : Cl 300 (some (n, xs)) 242 P Q) {i r B N R : Nat} {u : Nat × Nat} {v5 v6 : Value} {mem : Nat → Nat → Int32} (hi : i + 5 ≤ n) (hn : n ≤ 2560) (h : RRc mem N R B) (hB : B + 20000 < 60000000) (hu : u.1 + 1 ≤ 601024 ∧ u.2 + 6 ≤ 7293033)
    (k : ∀ r' mem' v5 v6 u', RR (B + 20000) mem' → u'.1 ≤ u.1 + 1 → u'.2 ≤ u.2 + 6 → P 1595 [.ref 100000, .ref 0, .ref 108, .ref 144, .int (nI i), v5, v6] [] u' (LAY, RFu r', mem')) : P 1383 [.ref 100000, .ref 0, .ref 108, .ref 144, .int (nI i), v5, v6] [] u (LAY, RFu r, mem) := by
  have hB' : B + 20000 < 500000000 := by omega
  have hu0 : u.1 ≤ (xAl 242).1 ∧ u.2 ≤ (xAl 242).2 := ⟨by show u.1 ≤ 601024; omega, by show u.2 ≤ 7293033; omega⟩
  have a1 : vp_in (nI i + nI 1) n := vpx (by omega) (by omega)
  have a2 : vp_in (nI i + nI 2) n := vpx (by omega) (by omega)
  have a3 : vp_in (nI i + nI 3) n := vpx (by omega) (by omega)
  have a4 : vp_in (nI i + nI 4) n := vpx (by omega) (by omega)
  refine r_aload_n hP d242_1383 rfl ?_
  refine r_aload_n hP d242_1384 rfl ?_
  refine r_iload hP d242_1385 rfl ?_
  refine r_iconst (v := nI 1) hP d242_1387 rfl ?_
  refine r_iadd hP d242_1388 ?_
  refine r_sld hP d242_1389 a1 ?_
  refine r_aload_n hP d242_1390 rfl ?_
  refine r_iload hP d242_1391 rfl ?_
  refine r_iconst (v := nI 2) hP d242_1393 rfl ?_
  refine r_iadd hP d242_1394 ?_
  refine r_sld hP d242_1395 a2 ?_
  refine r_aload_n hP d242_1396 rfl ?_
  have hc : xCallOK 242 240 [.ref 100000, .ref 0, .ref 108, .ref 144, .int (nI i), v5, v6] [] u (LAY, RFu r, mem) := ⟨rfl, by decide, by decide, by show u.1 + 1 ≤ 601024; omega, by show u.2 + 6 ≤ 7293033; omega, fun q => by cases q⟩
  have hu1 : (u.1 + 1, u.2 + 6).1 ≤ (xAl 242).1 ∧ (u.1 + 1, u.2 + 6).2 ≤ (xAl 242).2 := ⟨by show u.1 + 1 ≤ 601024; omega, by show u.2 + 6 ≤ 7293033; omega⟩
  refine hP.i d242_1397 ⟨rfl, Or.inl ⟨240, [.ref 0, .int (xs (nI i + nI 1).toNatClampNeg), .int (xs (nI i + nI 2).toNatClampNeg), .ref 144], [], by decide +kernel, rfl, by simp [Value.category], rfl, hc, Or.inr ⟨143, 0, [(xs (nI i + nI 1).toNatClampNeg), (xs (nI i + nI 2).toNatClampNeg)], 144, 1, 17, rfl, rfl, rfl, ly_0, ly_144, by decide, tk_spares (xs (nI i + nI 1).toNatClampNeg) (xs (nI i + nI 2).toNatClampNeg) N R B r mem _ h hB' (fun m1 k2 => Or.inl ⟨rfl, (fun q => by cases q), ?_⟩) (fun w m1 k2 => Or.inr ⟨w, rfl, (fun q => by cases q), ?_⟩)⟩⟩⟩
  · show P 1400 [.ref 100000, .ref 0, .ref 108, .ref 144, .int (nI i), v5, v6] [.int 1] (u.1 + 1, u.2 + 6) (LAY, RFu r, m1)
    refine r_istore (L' := [.ref 100000, .ref 0, .ref 108, .ref 144, .int (nI i), .int 1, v6]) hP d242_1400 (Nat.le_of_ble_eq_true rfl) rfl ?_
    refine r_aload_n hP d242_1402 rfl ?_
    refine r_aload_n hP d242_1403 rfl ?_
    refine r_iload hP d242_1404 rfl ?_
    refine r_iconst (v := nI 1) hP d242_1406 rfl ?_
    refine r_iadd hP d242_1407 ?_
    refine r_sld hP d242_1408 a1 ?_
    refine r_aload_n hP d242_1409 rfl ?_
    refine r_iload hP d242_1410 rfl ?_
    refine r_iconst (v := nI 2) hP d242_1412 rfl ?_
    refine r_iadd hP d242_1413 ?_
    refine r_sld hP d242_1414 a2 ?_
    refine r_callv (M' := 230) (As := [.int (xs (nI i + nI 1).toNatClampNeg), .int (xs (nI i + nI 2).toNatClampNeg)]) (S := []) hP d242_1415 (by decide +kernel) (by decide +kernel) rfl (by simp [Value.category]) rfl ly_108 (by simp [Value.category]) hu1 (k2 _ fun r2 mem2 w h2 e20 => Bk.i ?_)
    refine r_istore (L' := [.ref 100000, .ref 0, .ref 108, .ref 144, .int (nI i), .int 1, .int w]) hP d242_1418 (Nat.le_of_ble_eq_true rfl) rfl ?_
    refine r_aload_n hP d242_1420 rfl ?_
    refine r_callv (M' := 157) (As := []) (S := []) hP d242_1421 (by decide +kernel) (by decide +kernel) rfl (by simp) rfl ly_108 (by simp [Value.category]) hu1 (c_in rfl rfl rfl fun P2 hP2 => b157_0 hP2 (Bk.i ?_))
    rw [e20]
    refine r_iload hP d242_1424 rfl ?_
    refine r_icmp (t := 1431) hP d242_1426 (by decide) (fun _ => ?_) (fun z => absurd (show nI 1 = 1 by decide) z)
    refine r_iload hP d242_1431 rfl ?_
    refine r_if (t := 1448) hP d242_1433 (by decide) (fun _ => ?_) (fun z => absurd (show ¬ (1 : Int32) = 0 by decide) z)
    refine r_goto (t := 1595) hP d242_1448 (by decide) ?_
    exact k _ _ _ _ (u.1 + 1, u.2 + 6) h2 (Nat.le_refl _) (Nat.le_refl _)
  · show P 1400 [.ref 100000, .ref 0, .ref 108, .ref 144, .int (nI i), v5, v6] [.int 0] (u.1 + 1, u.2 + 6) (LAY, RFu r, xu2 m1 144 0 w)
    refine r_istore (L' := [.ref 100000, .ref 0, .ref 108, .ref 144, .int (nI i), .int 0, v6]) hP d242_1400 (Nat.le_of_ble_eq_true rfl) rfl ?_
    refine r_aload_n hP d242_1402 rfl ?_
    refine r_aload_n hP d242_1403 rfl ?_
    refine r_iload hP d242_1404 rfl ?_
    refine r_iconst (v := nI 1) hP d242_1406 rfl ?_
    refine r_iadd hP d242_1407 ?_
    refine r_sld hP d242_1408 a1 ?_
    refine r_aload_n hP d242_1409 rfl ?_
    refine r_iload hP d242_1410 rfl ?_
    refine r_iconst (v := nI 2) hP d242_1412 rfl ?_
    refine r_iadd hP d242_1413 ?_
    refine r_sld hP d242_1414 a2 ?_
    refine r_callv (M' := 230) (As := [.int (xs (nI i + nI 1).toNatClampNeg), .int (xs (nI i + nI 2).toNatClampNeg)]) (S := []) hP d242_1415 (by decide +kernel) (by decide +kernel) rfl (by simp [Value.category]) rfl ly_108 (by simp [Value.category]) hu1 (k2 _ fun r2 mem2 h2 e20 e144 => Bk.i ?_)
    refine r_istore (L' := [.ref 100000, .ref 0, .ref 108, .ref 144, .int (nI i), .int 0, .int w]) hP d242_1418 (Nat.le_of_ble_eq_true rfl) rfl ?_
    refine r_aload_n hP d242_1420 rfl ?_
    refine r_callv (M' := 157) (As := []) (S := []) hP d242_1421 (by decide +kernel) (by decide +kernel) rfl (by simp) rfl ly_108 (by simp [Value.category]) hu1 (c_in rfl rfl rfl fun P2 hP2 => b157_0 hP2 (Bk.i ?_))
    rw [e20]
    refine r_iload hP d242_1424 rfl ?_
    refine r_icmp (t := 1431) hP d242_1426 (by decide) (fun _ => ?_) (fun z => absurd (show nI 0 = 0 by decide) z)
    refine r_iload hP d242_1431 rfl ?_
    refine r_if (t := 1448) hP d242_1433 (by decide) (fun z => absurd (rfl : (0 : Int32) = 0) z) (fun _ => ?_)
    refine r_aload_n hP d242_1436 rfl ?_
    refine r_iconst (v := nI 0) hP d242_1437 rfl ?_
    refine r_laload hP d242_1438 ly_144 (vpn (a := 0) (by decide) (by decide)) ?_
    rw [show mem2 144 (nI 0).toNatClampNeg = w from e144]
    refine r_iload hP d242_1439 rfl ?_
    refine r_i2l hP d242_1441 ?_
    refine r_lcmp hP d242_1442 ?_
    refine r_if (t := 1448) hP d242_1443 (by decide) (fun _ => ?_) (fun z => absurd (lg_self _) z)
    refine r_goto (t := 1595) hP d242_1448 (by decide) ?_
    exact k _ _ _ _ (u.1 + 1, u.2 + 6) h2 (Nat.le_refl _) (Nat.le_refl _)
theorem lw_38 {n : Nat} {xs : Nat → Int32} {P : xPr} {Q : xQr} (hP : Cl 300 (some (n, xs)) 242 P Q) {i r B N R : Nat} {u : Nat × Nat} {v5 v6 : Value} {mem : Nat → Nat → Int32} (hi : i + 5 ≤ n) (hn : n ≤ 2560) (h : RRc mem N R B) (hB : B + 20000 < 60000000) (hu : u.1 + 1 ≤ 601024 ∧ u.2 + 6 ≤ 7293033)
    (k : ∀ r' mem' v5 v6 u', RR (B + 20000) mem' → u'.1 ≤ u.1 + 1 → u'.2 ≤ u.2 + 6 → P 1595 [.ref 100000, .ref 0, .ref 108, .ref 144, .int (nI i), v5, v6] [] u' (LAY, RFu r', mem')) : P 1451 [.ref 100000, .ref 0, .ref 108, .ref 144, .int (nI i), v5, v6] [] u (LAY, RFu r, mem) := by
  have hB' : B + 20000 < 500000000 := by omega
  have hu0 : u.1 ≤ (xAl 242).1 ∧ u.2 ≤ (xAl 242).2 := ⟨by show u.1 ≤ 601024; omega, by show u.2 ≤ 7293033; omega⟩
  have a1 : vp_in (nI i + nI 1) n := vpx (by omega) (by omega)
  have a2 : vp_in (nI i + nI 2) n := vpx (by omega) (by omega)
  have a3 : vp_in (nI i + nI 3) n := vpx (by omega) (by omega)
  have a4 : vp_in (nI i + nI 4) n := vpx (by omega) (by omega)
  refine r_aload_n hP d242_1451 rfl ?_
  refine r_callv (M' := 144) (As := []) (S := []) hP d242_1452 (by decide +kernel) (by decide +kernel) rfl (by simp) rfl ly_0 (by simp [Value.category]) hu0 (tk_round  N R B r mem _ h hB (fun w m1 k2 => Bk.i ?_))
  refine r_aload_n hP d242_1455 rfl ?_
  refine r_callv (M' := 232) (As := []) (S := [.int w]) hP d242_1456 (by decide +kernel) (by decide +kernel) rfl (by simp) rfl ly_108 (by simp [Value.category]) hu0 (k2 _ fun r2 mem2 h2 => Bk.i ?_)
  refine r_icmp (t := 1595) hP d242_1459 (by decide) (fun _ => ?_) (fun z => absurd rfl z)
  exact k _ _ _ _ u h2 (Nat.le_succ _) (Nat.le_add_right _ _)
theorem lw_39 {n : Nat} {xs : Nat → Int32} {P : xPr} {Q : xQr} (hP : Cl 300 (some (n, xs)) 242 P Q) {i r B N R : Nat} {u : Nat × Nat} {v5 v6 : Value} {mem : Nat → Nat → Int32} (hi : i + 5 ≤ n) (hn : n ≤ 2560) (h : RRc mem N R B) (hB : B + 20000 < 60000000) (hu : u.1 + 1 ≤ 601024 ∧ u.2 + 6 ≤ 7293033)
    (k : ∀ r' mem' v5 v6 u', RR (B + 20000) mem' → u'.1 ≤ u.1 + 1 → u'.2 ≤ u.2 + 6 → P 1595 [.ref 100000, .ref 0, .ref 108, .ref 144, .int (nI i), v5, v6] [] u' (LAY, RFu r', mem')) : P 1464 [.ref 100000, .ref 0, .ref 108, .ref 144, .int (nI i), v5, v6] [] u (LAY, RFu r, mem) := by
  have hB' : B + 20000 < 500000000 := by omega
  have hu0 : u.1 ≤ (xAl 242).1 ∧ u.2 ≤ (xAl 242).2 := ⟨by show u.1 ≤ 601024; omega, by show u.2 ≤ 7293033; omega⟩
  have a1 : vp_in (nI i + nI 1) n := vpx (by omega) (by omega)
  have a2 : vp_in (nI i + nI 2) n := vpx (by omega) (by omega)
  have a3 : vp_in (nI i + nI 3) n := vpx (by omega) (by omega)
  have a4 : vp_in (nI i + nI 4) n := vpx (by omega) (by omega)
  refine r_aload_n hP d242_1464 rfl ?_
  refine r_aload_n hP d242_1465 rfl ?_
  refine r_iload hP d242_1466 rfl ?_
  refine r_iconst (v := nI 1) hP d242_1468 rfl ?_
  refine r_iadd hP d242_1469 ?_
  refine r_sld hP d242_1470 a1 ?_
  refine r_callv (M' := 147) (As := [.int (xs (nI i + nI 1).toNatClampNeg)]) (S := []) hP d242_1471 (by decide +kernel) (by decide +kernel) rfl (by simp [Value.category]) rfl ly_0 (by simp [Value.category]) hu0 (tk_keep (xs (nI i + nI 1).toNatClampNeg) N R B r mem _ h hB' (fun w m1 k2 => Bk.i ?_))
  refine r_aload_n hP d242_1474 rfl ?_
  refine r_aload_n hP d242_1475 rfl ?_
  refine r_iload hP d242_1476 rfl ?_
  refine r_iconst (v := nI 1) hP d242_1478 rfl ?_
  refine r_iadd hP d242_1479 ?_
  refine r_sld hP d242_1480 a1 ?_
  refine r_callv (M' := 233) (As := [.int (xs (nI i + nI 1).toNatClampNeg)]) (S := [.int w]) hP d242_1481 (by decide +kernel) (by decide +kernel) rfl (by simp [Value.category]) rfl ly_108 (by simp [Value.category]) hu0 (k2 _ fun r2 mem2 h2 => Bk.i ?_)
  refine r_icmp (t := 1595) hP d242_1484 (by decide) (fun _ => ?_) (fun z => absurd rfl z)
  exact k _ _ _ _ u h2 (Nat.le_succ _) (Nat.le_add_right _ _)
theorem lw_40 {n : Nat} {xs : Nat → Int32} {P : xPr} {Q : xQr} (hP : Cl 300 (some (n, xs)) 242 P Q) {i r B N R : Nat} {u : Nat × Nat} {v5 v6 : Value} {mem : Nat → Nat → Int32} (hi : i + 5 ≤ n) (hn : n ≤ 2560) (h : RRc mem N R B) (hB : B + 20000 < 60000000) (hu : u.1 + 1 ≤ 601024 ∧ u.2 + 6 ≤ 7293033)
    (k : ∀ r' mem' v5 v6 u', RR (B + 20000) mem' → u'.1 ≤ u.1 + 1 → u'.2 ≤ u.2 + 6 → P 1595 [.ref 100000, .ref 0, .ref 108, .ref 144, .int (nI i), v5, v6] [] u' (LAY, RFu r', mem')) : P 1489 [.ref 100000, .ref 0, .ref 108, .ref 144, .int (nI i), v5, v6] [] u (LAY, RFu r, mem) := by
  have hB' : B + 20000 < 500000000 := by omega
  have hu0 : u.1 ≤ (xAl 242).1 ∧ u.2 ≤ (xAl 242).2 := ⟨by show u.1 ≤ 601024; omega, by show u.2 ≤ 7293033; omega⟩
  have a1 : vp_in (nI i + nI 1) n := vpx (by omega) (by omega)
  have a2 : vp_in (nI i + nI 2) n := vpx (by omega) (by omega)
  have a3 : vp_in (nI i + nI 3) n := vpx (by omega) (by omega)
  have a4 : vp_in (nI i + nI 4) n := vpx (by omega) (by omega)
  refine r_aload_n hP d242_1489 rfl ?_
  refine r_aload_n hP d242_1490 rfl ?_
  refine r_iload hP d242_1491 rfl ?_
  refine r_iconst (v := nI 1) hP d242_1493 rfl ?_
  refine r_iadd hP d242_1494 ?_
  refine r_sld hP d242_1495 a1 ?_
  refine r_callv (M' := 148) (As := [.int (xs (nI i + nI 1).toNatClampNeg)]) (S := []) hP d242_1496 (by decide +kernel) (by decide +kernel) rfl (by simp [Value.category]) rfl ly_0 (by simp [Value.category]) hu0 (tk_again (xs (nI i + nI 1).toNatClampNeg) N R B r mem _ h hB' (fun w m1 k2 => Bk.i ?_))
  refine r_aload_n hP d242_1499 rfl ?_
  refine r_aload_n hP d242_1500 rfl ?_
  refine r_iload hP d242_1501 rfl ?_
  refine r_iconst (v := nI 1) hP d242_1503 rfl ?_
  refine r_iadd hP d242_1504 ?_
  refine r_sld hP d242_1505 a1 ?_
  refine r_callv (M' := 234) (As := [.int (xs (nI i + nI 1).toNatClampNeg)]) (S := [.int w]) hP d242_1506 (by decide +kernel) (by decide +kernel) rfl (by simp [Value.category]) rfl ly_108 (by simp [Value.category]) hu0 (k2 _ fun r2 mem2 h2 => Bk.i ?_)
  refine r_icmp (t := 1595) hP d242_1509 (by decide) (fun _ => ?_) (fun z => absurd rfl z)
  exact k _ _ _ _ u h2 (Nat.le_succ _) (Nat.le_add_right _ _)
theorem lw_41 {n : Nat} {xs : Nat → Int32} {P : xPr} {Q : xQr} (hP : Cl 300 (some (n, xs)) 242 P Q) {i r B N R : Nat} {u : Nat × Nat} {v5 v6 : Value} {mem : Nat → Nat → Int32} (hi : i + 5 ≤ n) (hn : n ≤ 2560) (h : RRc mem N R B) (hB : B + 20000 < 60000000) (hu : u.1 + 1 ≤ 601024 ∧ u.2 + 6 ≤ 7293033)
    (k : ∀ r' mem' v5 v6 u', RR (B + 20000) mem' → u'.1 ≤ u.1 + 1 → u'.2 ≤ u.2 + 6 → P 1595 [.ref 100000, .ref 0, .ref 108, .ref 144, .int (nI i), v5, v6] [] u' (LAY, RFu r', mem')) : P 1514 [.ref 100000, .ref 0, .ref 108, .ref 144, .int (nI i), v5, v6] [] u (LAY, RFu r, mem) := by
  have hB' : B + 20000 < 500000000 := by omega
  have hu0 : u.1 ≤ (xAl 242).1 ∧ u.2 ≤ (xAl 242).2 := ⟨by show u.1 ≤ 601024; omega, by show u.2 ≤ 7293033; omega⟩
  have a1 : vp_in (nI i + nI 1) n := vpx (by omega) (by omega)
  have a2 : vp_in (nI i + nI 2) n := vpx (by omega) (by omega)
  have a3 : vp_in (nI i + nI 3) n := vpx (by omega) (by omega)
  have a4 : vp_in (nI i + nI 4) n := vpx (by omega) (by omega)
  refine r_aload_n hP d242_1514 rfl ?_
  refine r_aload_n hP d242_1515 rfl ?_
  refine r_iload hP d242_1516 rfl ?_
  refine r_iconst (v := nI 1) hP d242_1518 rfl ?_
  refine r_iadd hP d242_1519 ?_
  refine r_sld hP d242_1520 a1 ?_
  refine r_callv (M' := 149) (As := [.int (xs (nI i + nI 1).toNatClampNeg)]) (S := []) hP d242_1521 (by decide +kernel) (by decide +kernel) rfl (by simp [Value.category]) rfl ly_0 (by simp [Value.category]) hu0 (tk_count (xs (nI i + nI 1).toNatClampNeg) N R B r mem _ h hB' (fun w m1 k2 => Bk.i ?_))
  refine r_aload_n hP d242_1524 rfl ?_
  refine r_aload_n hP d242_1525 rfl ?_
  refine r_iload hP d242_1526 rfl ?_
  refine r_iconst (v := nI 1) hP d242_1528 rfl ?_
  refine r_iadd hP d242_1529 ?_
  refine r_sld hP d242_1530 a1 ?_
  refine r_callv (M' := 235) (As := [.int (xs (nI i + nI 1).toNatClampNeg)]) (S := [.int w]) hP d242_1531 (by decide +kernel) (by decide +kernel) rfl (by simp [Value.category]) rfl ly_108 (by simp [Value.category]) hu0 (k2 _ fun r2 mem2 h2 => Bk.i ?_)
  refine r_icmp (t := 1595) hP d242_1534 (by decide) (fun _ => ?_) (fun z => absurd rfl z)
  exact k _ _ _ _ u h2 (Nat.le_succ _) (Nat.le_add_right _ _)
theorem lw_42 {n : Nat} {xs : Nat → Int32} {P : xPr} {Q : xQr} (hP : Cl 300 (some (n, xs)) 242 P Q) {i r B N R : Nat} {u : Nat × Nat} {v5 v6 : Value} {mem : Nat → Nat → Int32} (hi : i + 5 ≤ n) (hn : n ≤ 2560) (h : RRc mem N R B) (hB : B + 20000 < 60000000) (hu : u.1 + 1 ≤ 601024 ∧ u.2 + 6 ≤ 7293033)
    (k : ∀ r' mem' v5 v6 u', RR (B + 20000) mem' → u'.1 ≤ u.1 + 1 → u'.2 ≤ u.2 + 6 → P 1595 [.ref 100000, .ref 0, .ref 108, .ref 144, .int (nI i), v5, v6] [] u' (LAY, RFu r', mem')) : P 1539 [.ref 100000, .ref 0, .ref 108, .ref 144, .int (nI i), v5, v6] [] u (LAY, RFu r, mem) := by
  have hB' : B + 20000 < 500000000 := by omega
  have hu0 : u.1 ≤ (xAl 242).1 ∧ u.2 ≤ (xAl 242).2 := ⟨by show u.1 ≤ 601024; omega, by show u.2 ≤ 7293033; omega⟩
  have a1 : vp_in (nI i + nI 1) n := vpx (by omega) (by omega)
  have a2 : vp_in (nI i + nI 2) n := vpx (by omega) (by omega)
  have a3 : vp_in (nI i + nI 3) n := vpx (by omega) (by omega)
  have a4 : vp_in (nI i + nI 4) n := vpx (by omega) (by omega)
  refine r_aload_n hP d242_1539 rfl ?_
  refine r_aload_n hP d242_1540 rfl ?_
  refine r_iload hP d242_1541 rfl ?_
  refine r_iconst (v := nI 1) hP d242_1543 rfl ?_
  refine r_iadd hP d242_1544 ?_
  refine r_sld hP d242_1545 a1 ?_
  refine r_aload_n hP d242_1546 rfl ?_
  have hc : xCallOK 242 241 [.ref 100000, .ref 0, .ref 108, .ref 144, .int (nI i), v5, v6] [] u (LAY, RFu r, mem) := ⟨rfl, by decide, by decide, by show u.1 + 1 ≤ 601024; omega, by show u.2 + 6 ≤ 7293033; omega, fun q => by cases q⟩
  have hu1 : (u.1 + 1, u.2 + 6).1 ≤ (xAl 242).1 ∧ (u.1 + 1, u.2 + 6).2 ≤ (xAl 242).2 := ⟨by show u.1 + 1 ≤ 601024; omega, by show u.2 + 6 ≤ 7293033; omega⟩
  refine hP.i d242_1547 ⟨rfl, Or.inl ⟨241, [.ref 0, .int (xs (nI i + nI 1).toNatClampNeg), .ref 144], [], by decide +kernel, rfl, by simp [Value.category], rfl, hc, Or.inr ⟨150, 0, [(xs (nI i + nI 1).toNatClampNeg)], 144, 1, 17, rfl, rfl, rfl, ly_0, ly_144, by decide, tk_row (xs (nI i + nI 1).toNatClampNeg) N R B r mem _ h hB' (fun m1 k2 => Or.inl ⟨rfl, (fun q => by cases q), ?_⟩) (fun w m1 k2 => Or.inr ⟨w, rfl, (fun q => by cases q), ?_⟩)⟩⟩⟩
  · show P 1550 [.ref 100000, .ref 0, .ref 108, .ref 144, .int (nI i), v5, v6] [.int 1] (u.1 + 1, u.2 + 6) (LAY, RFu r, m1)
    refine r_istore (L' := [.ref 100000, .ref 0, .ref 108, .ref 144, .int (nI i), .int 1, v6]) hP d242_1550 (Nat.le_of_ble_eq_true rfl) rfl ?_
    refine r_aload_n hP d242_1552 rfl ?_
    refine r_aload_n hP d242_1553 rfl ?_
    refine r_iload hP d242_1554 rfl ?_
    refine r_iconst (v := nI 1) hP d242_1556 rfl ?_
    refine r_iadd hP d242_1557 ?_
    refine r_sld hP d242_1558 a1 ?_
    refine r_callv (M' := 236) (As := [.int (xs (nI i + nI 1).toNatClampNeg)]) (S := []) hP d242_1559 (by decide +kernel) (by decide +kernel) rfl (by simp [Value.category]) rfl ly_108 (by simp [Value.category]) hu1 (k2 _ fun r2 mem2 w h2 e20 => Bk.i ?_)
    refine r_istore (L' := [.ref 100000, .ref 0, .ref 108, .ref 144, .int (nI i), .int 1, .int w]) hP d242_1562 (Nat.le_of_ble_eq_true rfl) rfl ?_
    refine r_aload_n hP d242_1564 rfl ?_
    refine r_callv (M' := 157) (As := []) (S := []) hP d242_1565 (by decide +kernel) (by decide +kernel) rfl (by simp) rfl ly_108 (by simp [Value.category]) hu1 (c_in rfl rfl rfl fun P2 hP2 => b157_0 hP2 (Bk.i ?_))
    rw [e20]
    refine r_iload hP d242_1568 rfl ?_
    refine r_icmp (t := 1575) hP d242_1570 (by decide) (fun _ => ?_) (fun z => absurd (show nI 1 = 1 by decide) z)
    refine r_iload hP d242_1575 rfl ?_
    refine r_if (t := 1592) hP d242_1577 (by decide) (fun _ => ?_) (fun z => absurd (show ¬ (1 : Int32) = 0 by decide) z)
    refine r_goto (t := 1595) hP d242_1592 (by decide) ?_
    exact k _ _ _ _ (u.1 + 1, u.2 + 6) h2 (Nat.le_refl _) (Nat.le_refl _)
  · show P 1550 [.ref 100000, .ref 0, .ref 108, .ref 144, .int (nI i), v5, v6] [.int 0] (u.1 + 1, u.2 + 6) (LAY, RFu r, xu2 m1 144 0 w)
    refine r_istore (L' := [.ref 100000, .ref 0, .ref 108, .ref 144, .int (nI i), .int 0, v6]) hP d242_1550 (Nat.le_of_ble_eq_true rfl) rfl ?_
    refine r_aload_n hP d242_1552 rfl ?_
    refine r_aload_n hP d242_1553 rfl ?_
    refine r_iload hP d242_1554 rfl ?_
    refine r_iconst (v := nI 1) hP d242_1556 rfl ?_
    refine r_iadd hP d242_1557 ?_
    refine r_sld hP d242_1558 a1 ?_
    refine r_callv (M' := 236) (As := [.int (xs (nI i + nI 1).toNatClampNeg)]) (S := []) hP d242_1559 (by decide +kernel) (by decide +kernel) rfl (by simp [Value.category]) rfl ly_108 (by simp [Value.category]) hu1 (k2 _ fun r2 mem2 h2 e20 e144 => Bk.i ?_)
    refine r_istore (L' := [.ref 100000, .ref 0, .ref 108, .ref 144, .int (nI i), .int 0, .int w]) hP d242_1562 (Nat.le_of_ble_eq_true rfl) rfl ?_
    refine r_aload_n hP d242_1564 rfl ?_
    refine r_callv (M' := 157) (As := []) (S := []) hP d242_1565 (by decide +kernel) (by decide +kernel) rfl (by simp) rfl ly_108 (by simp [Value.category]) hu1 (c_in rfl rfl rfl fun P2 hP2 => b157_0 hP2 (Bk.i ?_))
    rw [e20]
    refine r_iload hP d242_1568 rfl ?_
    refine r_icmp (t := 1575) hP d242_1570 (by decide) (fun _ => ?_) (fun z => absurd (show nI 0 = 0 by decide) z)
    refine r_iload hP d242_1575 rfl ?_
    refine r_if (t := 1592) hP d242_1577 (by decide) (fun z => absurd (rfl : (0 : Int32) = 0) z) (fun _ => ?_)
    refine r_aload_n hP d242_1580 rfl ?_
    refine r_iconst (v := nI 0) hP d242_1581 rfl ?_
    refine r_laload hP d242_1582 ly_144 (vpn (a := 0) (by decide) (by decide)) ?_
    rw [show mem2 144 (nI 0).toNatClampNeg = w from e144]
    refine r_iload hP d242_1583 rfl ?_
    refine r_i2l hP d242_1585 ?_
    refine r_lcmp hP d242_1586 ?_
    refine r_if (t := 1592) hP d242_1587 (by decide) (fun _ => ?_) (fun z => absurd (lg_self _) z)
    refine r_goto (t := 1595) hP d242_1592 (by decide) ?_
    exact k _ _ _ _ (u.1 + 1, u.2 + 6) h2 (Nat.le_refl _) (Nat.le_refl _)
