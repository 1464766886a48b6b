/-! The law's own code. -/
theorem dL_0 : decode cL_law 0 = .ok (.new 8, 3) := by decide +kernel
theorem dL_3 : decode cL_law 3 = .ok (.dup, 1) := by decide +kernel
theorem dL_4 : decode cL_law 4 = .ok (.invokespecial 19, 3) := by decide +kernel
theorem dL_7 : decode cL_law 7 = .ok (.astore_n 1, 1) := by decide +kernel
theorem dL_8 : decode cL_law 8 = .ok (.new 20, 3) := by decide +kernel
theorem dL_11 : decode cL_law 11 = .ok (.dup, 1) := by decide +kernel
theorem dL_12 : decode cL_law 12 = .ok (.invokespecial 22, 3) := by decide +kernel
theorem dL_15 : decode cL_law 15 = .ok (.astore_n 2, 1) := by decide +kernel
theorem dL_16 : decode cL_law 16 = .ok (.iconst 1, 1) := by decide +kernel
theorem dL_17 : decode cL_law 17 = .ok (.newarray .long, 2) := by decide +kernel
theorem dL_19 : decode cL_law 19 = .ok (.astore_n 3, 1) := by decide +kernel
theorem dL_20 : decode cL_law 20 = .ok (.iconst 0, 1) := by decide +kernel
theorem dL_21 : decode cL_law 21 = .ok (.istore 4, 2) := by decide +kernel
theorem dL_23 : decode cL_law 23 = .ok (.iload 4, 2) := by decide +kernel
theorem dL_25 : decode cL_law 25 = .ok (.aload_n 0, 1) := by decide +kernel
theorem dL_26 : decode cL_law 26 = .ok (.arraylength, 1) := by decide +kernel
theorem dL_27 : decode cL_law 27 = .ok (.bipush 6, 2) := by decide +kernel
theorem dL_29 : decode cL_law 29 = .ok (.isub, 1) := by decide +kernel
theorem dL_30 : decode cL_law 30 = .ok (.if_icmp .gt 1608, 3) := by decide +kernel
theorem dL_33 : decode cL_law 33 = .ok (.aload_n 0, 1) := by decide +kernel
theorem dL_34 : decode cL_law 34 = .ok (.iload 4, 2) := by decide +kernel
theorem dL_36 : decode cL_law 36 = .ok (.iaload, 1) := by decide +kernel
theorem dL_37 : decode cL_law 37 = .ok (.bipush 63, 2) := by decide +kernel
theorem dL_39 : decode cL_law 39 = .ok (.iand, 1) := by decide +kernel
theorem dL_40 : decode cL_law 40 = .ok (.tableswitch 1592 0 49 #[216, 289, 314, 327, 340, 353, 366, 379, 392, 405, 461, 529, 554, 579, 592, 605, 630, 655, 692, 717, 754, 791, 828, 877, 926, 975, 1012, 1049, 1062, 1099, 1136, 1161, 1186, 1199, 1212, 1225, 1250, 1275, 1288, 1313, 1338, 1351, 1364, 1377, 1402, 1463, 1516, 1529, 1542, 1567], 216) := by decide +kernel
theorem dL_256 : decode cL_law 256 = .ok (.aload_n 1, 1) := by decide +kernel
theorem dL_257 : decode cL_law 257 = .ok (.aload_n 0, 1) := by decide +kernel
theorem dL_258 : decode cL_law 258 = .ok (.iload 4, 2) := by decide +kernel
theorem dL_260 : decode cL_law 260 = .ok (.iconst 1, 1) := by decide +kernel
theorem dL_261 : decode cL_law 261 = .ok (.iadd, 1) := by decide +kernel
theorem dL_262 : decode cL_law 262 = .ok (.iaload, 1) := by decide +kernel
theorem dL_263 : decode cL_law 263 = .ok (.aload_n 0, 1) := by decide +kernel
theorem dL_264 : decode cL_law 264 = .ok (.iload 4, 2) := by decide +kernel
theorem dL_266 : decode cL_law 266 = .ok (.iconst 2, 1) := by decide +kernel
theorem dL_267 : decode cL_law 267 = .ok (.iadd, 1) := by decide +kernel
theorem dL_268 : decode cL_law 268 = .ok (.iaload, 1) := by decide +kernel
theorem dL_269 : decode cL_law 269 = .ok (.aload_n 0, 1) := by decide +kernel
theorem dL_270 : decode cL_law 270 = .ok (.iload 4, 2) := by decide +kernel
theorem dL_272 : decode cL_law 272 = .ok (.iconst 3, 1) := by decide +kernel
theorem dL_273 : decode cL_law 273 = .ok (.iadd, 1) := by decide +kernel
theorem dL_274 : decode cL_law 274 = .ok (.iaload, 1) := by decide +kernel
theorem dL_275 : decode cL_law 275 = .ok (.aload_n 0, 1) := by decide +kernel
theorem dL_276 : decode cL_law 276 = .ok (.iload 4, 2) := by decide +kernel
theorem dL_278 : decode cL_law 278 = .ok (.iconst 4, 1) := by decide +kernel
theorem dL_279 : decode cL_law 279 = .ok (.iadd, 1) := by decide +kernel
theorem dL_280 : decode cL_law 280 = .ok (.iaload, 1) := by decide +kernel
theorem dL_281 : decode cL_law 281 = .ok (.aload_n 0, 1) := by decide +kernel
theorem dL_282 : decode cL_law 282 = .ok (.iload 4, 2) := by decide +kernel
theorem dL_284 : decode cL_law 284 = .ok (.iconst 5, 1) := by decide +kernel
theorem dL_285 : decode cL_law 285 = .ok (.iadd, 1) := by decide +kernel
theorem dL_286 : decode cL_law 286 = .ok (.iaload, 1) := by decide +kernel
theorem dL_287 : decode cL_law 287 = .ok (.invokevirtual 23, 3) := by decide +kernel
theorem dL_290 : decode cL_law 290 = .ok (.aload_n 2, 1) := by decide +kernel
theorem dL_291 : decode cL_law 291 = .ok (.aload_n 0, 1) := by decide +kernel
theorem dL_292 : decode cL_law 292 = .ok (.iload 4, 2) := by decide +kernel
theorem dL_294 : decode cL_law 294 = .ok (.iconst 1, 1) := by decide +kernel
theorem dL_295 : decode cL_law 295 = .ok (.iadd, 1) := by decide +kernel
theorem dL_296 : decode cL_law 296 = .ok (.iaload, 1) := by decide +kernel
theorem dL_297 : decode cL_law 297 = .ok (.aload_n 0, 1) := by decide +kernel
theorem dL_298 : decode cL_law 298 = .ok (.iload 4, 2) := by decide +kernel
theorem dL_300 : decode cL_law 300 = .ok (.iconst 2, 1) := by decide +kernel
theorem dL_301 : decode cL_law 301 = .ok (.iadd, 1) := by decide +kernel
theorem dL_302 : decode cL_law 302 = .ok (.iaload, 1) := by decide +kernel
theorem dL_303 : decode cL_law 303 = .ok (.aload_n 0, 1) := by decide +kernel
theorem dL_304 : decode cL_law 304 = .ok (.iload 4, 2) := by decide +kernel
theorem dL_306 : decode cL_law 306 = .ok (.iconst 3, 1) := by decide +kernel
theorem dL_307 : decode cL_law 307 = .ok (.iadd, 1) := by decide +kernel
theorem dL_308 : decode cL_law 308 = .ok (.iaload, 1) := by decide +kernel
theorem dL_309 : decode cL_law 309 = .ok (.aload_n 0, 1) := by decide +kernel
theorem dL_310 : decode cL_law 310 = .ok (.iload 4, 2) := by decide +kernel
theorem dL_312 : decode cL_law 312 = .ok (.iconst 4, 1) := by decide +kernel
theorem dL_313 : decode cL_law 313 = .ok (.iadd, 1) := by decide +kernel
theorem dL_314 : decode cL_law 314 = .ok (.iaload, 1) := by decide +kernel
theorem dL_315 : decode cL_law 315 = .ok (.aload_n 0, 1) := by decide +kernel
theorem dL_316 : decode cL_law 316 = .ok (.iload 4, 2) := by decide +kernel
theorem dL_318 : decode cL_law 318 = .ok (.iconst 5, 1) := by decide +kernel
theorem dL_319 : decode cL_law 319 = .ok (.iadd, 1) := by decide +kernel
theorem dL_320 : decode cL_law 320 = .ok (.iaload, 1) := by decide +kernel
theorem dL_321 : decode cL_law 321 = .ok (.invokevirtual 27, 3) := by decide +kernel
theorem dL_324 : decode cL_law 324 = .ok (.if_icmp .eq 1308, 3) := by decide +kernel
theorem dL_327 : decode cL_law 327 = .ok (.iconst 0, 1) := by decide +kernel
theorem dL_328 : decode cL_law 328 = .ok (.ireturn, 1) := by decide +kernel
theorem dL_329 : decode cL_law 329 = .ok (.aload_n 1, 1) := by decide +kernel
theorem dL_330 : decode cL_law 330 = .ok (.aload_n 0, 1) := by decide +kernel
theorem dL_331 : decode cL_law 331 = .ok (.iload 4, 2) := by decide +kernel
theorem dL_333 : decode cL_law 333 = .ok (.iconst 1, 1) := by decide +kernel
theorem dL_334 : decode cL_law 334 = .ok (.iadd, 1) := by decide +kernel
theorem dL_335 : decode cL_law 335 = .ok (.iaload, 1) := by decide +kernel
theorem dL_336 : decode cL_law 336 = .ok (.invokevirtual 28, 3) := by decide +kernel
theorem dL_339 : decode cL_law 339 = .ok (.aload_n 2, 1) := by decide +kernel
theorem dL_340 : decode cL_law 340 = .ok (.aload_n 0, 1) := by decide +kernel
theorem dL_341 : decode cL_law 341 = .ok (.iload 4, 2) := by decide +kernel
theorem dL_343 : decode cL_law 343 = .ok (.iconst 1, 1) := by decide +kernel
theorem dL_344 : decode cL_law 344 = .ok (.iadd, 1) := by decide +kernel
theorem dL_345 : decode cL_law 345 = .ok (.iaload, 1) := by decide +kernel
theorem dL_346 : decode cL_law 346 = .ok (.invokevirtual 31, 3) := by decide +kernel
theorem dL_349 : decode cL_law 349 = .ok (.if_icmp .eq 1283, 3) := by decide +kernel
theorem dL_352 : decode cL_law 352 = .ok (.iconst 0, 1) := by decide +kernel
theorem dL_353 : decode cL_law 353 = .ok (.ireturn, 1) := by decide +kernel
theorem dL_354 : decode cL_law 354 = .ok (.aload_n 1, 1) := by decide +kernel
theorem dL_355 : decode cL_law 355 = .ok (.invokevirtual 32, 3) := by decide +kernel
theorem dL_358 : decode cL_law 358 = .ok (.aload_n 2, 1) := by decide +kernel
theorem dL_359 : decode cL_law 359 = .ok (.invokevirtual 36, 3) := by decide +kernel
theorem dL_362 : decode cL_law 362 = .ok (.if_icmp .eq 1270, 3) := by decide +kernel
theorem dL_365 : decode cL_law 365 = .ok (.iconst 0, 1) := by decide +kernel
theorem dL_366 : decode cL_law 366 = .ok (.ireturn, 1) := by decide +kernel
theorem dL_367 : decode cL_law 367 = .ok (.aload_n 1, 1) := by decide +kernel
theorem dL_368 : decode cL_law 368 = .ok (.invokevirtual 37, 3) := by decide +kernel
theorem dL_371 : decode cL_law 371 = .ok (.aload_n 2, 1) := by decide +kernel
theorem dL_372 : decode cL_law 372 = .ok (.invokevirtual 40, 3) := by decide +kernel
theorem dL_375 : decode cL_law 375 = .ok (.if_icmp .eq 1257, 3) := by decide +kernel
theorem dL_378 : decode cL_law 378 = .ok (.iconst 0, 1) := by decide +kernel
theorem dL_379 : decode cL_law 379 = .ok (.ireturn, 1) := by decide +kernel
theorem dL_380 : decode cL_law 380 = .ok (.aload_n 1, 1) := by decide +kernel
theorem dL_381 : decode cL_law 381 = .ok (.invokevirtual 41, 3) := by decide +kernel
theorem dL_384 : decode cL_law 384 = .ok (.aload_n 2, 1) := by decide +kernel
theorem dL_385 : decode cL_law 385 = .ok (.invokevirtual 44, 3) := by decide +kernel
theorem dL_388 : decode cL_law 388 = .ok (.if_icmp .eq 1244, 3) := by decide +kernel
theorem dL_391 : decode cL_law 391 = .ok (.iconst 0, 1) := by decide +kernel
theorem dL_392 : decode cL_law 392 = .ok (.ireturn, 1) := by decide +kernel
theorem dL_393 : decode cL_law 393 = .ok (.aload_n 1, 1) := by decide +kernel
theorem dL_394 : decode cL_law 394 = .ok (.invokevirtual 45, 3) := by decide +kernel
theorem dL_397 : decode cL_law 397 = .ok (.aload_n 2, 1) := by decide +kernel
theorem dL_398 : decode cL_law 398 = .ok (.invokevirtual 48, 3) := by decide +kernel
theorem dL_401 : decode cL_law 401 = .ok (.if_icmp .eq 1231, 3) := by decide +kernel
theorem dL_404 : decode cL_law 404 = .ok (.iconst 0, 1) := by decide +kernel
theorem dL_405 : decode cL_law 405 = .ok (.ireturn, 1) := by decide +kernel
theorem dL_406 : decode cL_law 406 = .ok (.aload_n 1, 1) := by decide +kernel
theorem dL_407 : decode cL_law 407 = .ok (.invokevirtual 49, 3) := by decide +kernel
theorem dL_410 : decode cL_law 410 = .ok (.aload_n 2, 1) := by decide +kernel
theorem dL_411 : decode cL_law 411 = .ok (.invokevirtual 52, 3) := by decide +kernel
theorem dL_414 : decode cL_law 414 = .ok (.if_icmp .eq 1218, 3) := by decide +kernel
theorem dL_417 : decode cL_law 417 = .ok (.iconst 0, 1) := by decide +kernel
theorem dL_418 : decode cL_law 418 = .ok (.ireturn, 1) := by decide +kernel
theorem dL_419 : decode cL_law 419 = .ok (.aload_n 1, 1) := by decide +kernel
theorem dL_420 : decode cL_law 420 = .ok (.invokevirtual 53, 3) := by decide +kernel
theorem dL_423 : decode cL_law 423 = .ok (.aload_n 2, 1) := by decide +kernel
theorem dL_424 : decode cL_law 424 = .ok (.invokevirtual 56, 3) := by decide +kernel
theorem dL_427 : decode cL_law 427 = .ok (.if_icmp .eq 1205, 3) := by decide +kernel
theorem dL_430 : decode cL_law 430 = .ok (.iconst 0, 1) := by decide +kernel
theorem dL_431 : decode cL_law 431 = .ok (.ireturn, 1) := by decide +kernel
theorem dL_432 : decode cL_law 432 = .ok (.aload_n 1, 1) := by decide +kernel
theorem dL_433 : decode cL_law 433 = .ok (.invokevirtual 57, 3) := by decide +kernel
theorem dL_436 : decode cL_law 436 = .ok (.aload_n 2, 1) := by decide +kernel
theorem dL_437 : decode cL_law 437 = .ok (.invokevirtual 60, 3) := by decide +kernel
theorem dL_440 : decode cL_law 440 = .ok (.if_icmp .eq 1192, 3) := by decide +kernel
theorem dL_443 : decode cL_law 443 = .ok (.iconst 0, 1) := by decide +kernel
theorem dL_444 : decode cL_law 444 = .ok (.ireturn, 1) := by decide +kernel
theorem dL_445 : decode cL_law 445 = .ok (.aload_n 1, 1) := by decide +kernel
theorem dL_446 : decode cL_law 446 = .ok (.aload_n 0, 1) := by decide +kernel
theorem dL_447 : decode cL_law 447 = .ok (.iload 4, 2) := by decide +kernel
theorem dL_449 : decode cL_law 449 = .ok (.iconst 1, 1) := by decide +kernel
theorem dL_450 : decode cL_law 450 = .ok (.iadd, 1) := by decide +kernel
theorem dL_451 : decode cL_law 451 = .ok (.iaload, 1) := by decide +kernel
theorem dL_452 : decode cL_law 452 = .ok (.aload_n 3, 1) := by decide +kernel
theorem dL_453 : decode cL_law 453 = .ok (.invokestatic 61, 3) := by decide +kernel
theorem dL_456 : decode cL_law 456 = .ok (.istore 5, 2) := by decide +kernel
theorem dL_458 : decode cL_law 458 = .ok (.aload_n 2, 1) := by decide +kernel
theorem dL_459 : decode cL_law 459 = .ok (.aload_n 0, 1) := by decide +kernel
theorem dL_460 : decode cL_law 460 = .ok (.iload 4, 2) := by decide +kernel
theorem dL_462 : decode cL_law 462 = .ok (.iconst 1, 1) := by decide +kernel
theorem dL_463 : decode cL_law 463 = .ok (.iadd, 1) := by decide +kernel
theorem dL_464 : decode cL_law 464 = .ok (.iaload, 1) := by decide +kernel
theorem dL_465 : decode cL_law 465 = .ok (.invokevirtual 66, 3) := by decide +kernel
theorem dL_468 : decode cL_law 468 = .ok (.istore 6, 2) := by decide +kernel
theorem dL_470 : decode cL_law 470 = .ok (.aload_n 2, 1) := by decide +kernel
theorem dL_471 : decode cL_law 471 = .ok (.invokevirtual 67, 3) := by decide +kernel
theorem dL_474 : decode cL_law 474 = .ok (.iload 5, 2) := by decide +kernel
theorem dL_476 : decode cL_law 476 = .ok (.if_icmp .eq 5, 3) := by decide +kernel
theorem dL_479 : decode cL_law 479 = .ok (.iconst 0, 1) := by decide +kernel
theorem dL_480 : decode cL_law 480 = .ok (.ireturn, 1) := by decide +kernel
theorem dL_481 : decode cL_law 481 = .ok (.iload 5, 2) := by decide +kernel
theorem dL_483 : decode cL_law 483 = .ok (.ifCond .ne 15, 3) := by decide +kernel
theorem dL_486 : decode cL_law 486 = .ok (.aload_n 3, 1) := by decide +kernel
theorem dL_487 : decode cL_law 487 = .ok (.iconst 0, 1) := by decide +kernel
theorem dL_488 : decode cL_law 488 = .ok (.laload, 1) := by decide +kernel
theorem dL_489 : decode cL_law 489 = .ok (.iload 6, 2) := by decide +kernel
theorem dL_491 : decode cL_law 491 = .ok (.i2l, 1) := by decide +kernel
theorem dL_492 : decode cL_law 492 = .ok (.lcmp, 1) := by decide +kernel
theorem dL_493 : decode cL_law 493 = .ok (.ifCond .eq 5, 3) := by decide +kernel
theorem dL_496 : decode cL_law 496 = .ok (.iconst 0, 1) := by decide +kernel
theorem dL_497 : decode cL_law 497 = .ok (.ireturn, 1) := by decide +kernel
theorem dL_498 : decode cL_law 498 = .ok (.goto 1134, 3) := by decide +kernel
theorem dL_501 : decode cL_law 501 = .ok (.aload_n 1, 1) := by decide +kernel
theorem dL_502 : decode cL_law 502 = .ok (.aload_n 0, 1) := by decide +kernel
theorem dL_503 : decode cL_law 503 = .ok (.iload 4, 2) := by decide +kernel
theorem dL_505 : decode cL_law 505 = .ok (.iconst 1, 1) := by decide +kernel
theorem dL_506 : decode cL_law 506 = .ok (.iadd, 1) := by decide +kernel
theorem dL_507 : decode cL_law 507 = .ok (.iaload, 1) := by decide +kernel
theorem dL_508 : decode cL_law 508 = .ok (.aload_n 0, 1) := by decide +kernel
theorem dL_509 : decode cL_law 509 = .ok (.iload 4, 2) := by decide +kernel
theorem dL_511 : decode cL_law 511 = .ok (.iconst 2, 1) := by decide +kernel
theorem dL_512 : decode cL_law 512 = .ok (.iadd, 1) := by decide +kernel
theorem dL_513 : decode cL_law 513 = .ok (.iaload, 1) := by decide +kernel
theorem dL_514 : decode cL_law 514 = .ok (.aload_n 3, 1) := by decide +kernel
theorem dL_515 : decode cL_law 515 = .ok (.invokestatic 70, 3) := by decide +kernel
theorem dL_518 : decode cL_law 518 = .ok (.istore 5, 2) := by decide +kernel
theorem dL_520 : decode cL_law 520 = .ok (.aload_n 2, 1) := by decide +kernel
theorem dL_521 : decode cL_law 521 = .ok (.aload_n 0, 1) := by decide +kernel
theorem dL_522 : decode cL_law 522 = .ok (.iload 4, 2) := by decide +kernel
theorem dL_524 : decode cL_law 524 = .ok (.iconst 1, 1) := by decide +kernel
theorem dL_525 : decode cL_law 525 = .ok (.iadd, 1) := by decide +kernel
theorem dL_526 : decode cL_law 526 = .ok (.iaload, 1) := by decide +kernel
theorem dL_527 : decode cL_law 527 = .ok (.aload_n 0, 1) := by decide +kernel
theorem dL_528 : decode cL_law 528 = .ok (.iload 4, 2) := by decide +kernel
theorem dL_530 : decode cL_law 530 = .ok (.iconst 2, 1) := by decide +kernel
theorem dL_531 : decode cL_law 531 = .ok (.iadd, 1) := by decide +kernel
theorem dL_532 : decode cL_law 532 = .ok (.iaload, 1) := by decide +kernel
theorem dL_533 : decode cL_law 533 = .ok (.invokevirtual 73, 3) := by decide +kernel
theorem dL_536 : decode cL_law 536 = .ok (.istore 6, 2) := by decide +kernel
theorem dL_538 : decode cL_law 538 = .ok (.aload_n 2, 1) := by decide +kernel
theorem dL_539 : decode cL_law 539 = .ok (.invokevirtual 67, 3) := by decide +kernel
theorem dL_542 : decode cL_law 542 = .ok (.iload 5, 2) := by decide +kernel
theorem dL_544 : decode cL_law 544 = .ok (.if_icmp .eq 5, 3) := by decide +kernel
theorem dL_547 : decode cL_law 547 = .ok (.iconst 0, 1) := by decide +kernel
theorem dL_548 : decode cL_law 548 = .ok (.ireturn, 1) := by decide +kernel
theorem dL_549 : decode cL_law 549 = .ok (.iload 5, 2) := by decide +kernel
theorem dL_551 : decode cL_law 551 = .ok (.ifCond .ne 15, 3) := by decide +kernel
theorem dL_554 : decode cL_law 554 = .ok (.aload_n 3, 1) := by decide +kernel
theorem dL_555 : decode cL_law 555 = .ok (.iconst 0, 1) := by decide +kernel
theorem dL_556 : decode cL_law 556 = .ok (.laload, 1) := by decide +kernel
theorem dL_557 : decode cL_law 557 = .ok (.iload 6, 2) := by decide +kernel
theorem dL_559 : decode cL_law 559 = .ok (.i2l, 1) := by decide +kernel
theorem dL_560 : decode cL_law 560 = .ok (.lcmp, 1) := by decide +kernel
theorem dL_561 : decode cL_law 561 = .ok (.ifCond .eq 5, 3) := by decide +kernel
theorem dL_564 : decode cL_law 564 = .ok (.iconst 0, 1) := by decide +kernel
theorem dL_565 : decode cL_law 565 = .ok (.ireturn, 1) := by decide +kernel
theorem dL_566 : decode cL_law 566 = .ok (.goto 1066, 3) := by decide +kernel
theorem dL_569 : decode cL_law 569 = .ok (.aload_n 1, 1) := by decide +kernel
theorem dL_570 : decode cL_law 570 = .ok (.aload_n 0, 1) := by decide +kernel
theorem dL_571 : decode cL_law 571 = .ok (.iload 4, 2) := by decide +kernel
theorem dL_573 : decode cL_law 573 = .ok (.iconst 1, 1) := by decide +kernel
theorem dL_574 : decode cL_law 574 = .ok (.iadd, 1) := by decide +kernel
theorem dL_575 : decode cL_law 575 = .ok (.iaload, 1) := by decide +kernel
theorem dL_576 : decode cL_law 576 = .ok (.invokevirtual 74, 3) := by decide +kernel
theorem dL_579 : decode cL_law 579 = .ok (.aload_n 2, 1) := by decide +kernel
theorem dL_580 : decode cL_law 580 = .ok (.aload_n 0, 1) := by decide +kernel
theorem dL_581 : decode cL_law 581 = .ok (.iload 4, 2) := by decide +kernel
theorem dL_583 : decode cL_law 583 = .ok (.iconst 1, 1) := by decide +kernel
theorem dL_584 : decode cL_law 584 = .ok (.iadd, 1) := by decide +kernel
theorem dL_585 : decode cL_law 585 = .ok (.iaload, 1) := by decide +kernel
theorem dL_586 : decode cL_law 586 = .ok (.invokevirtual 77, 3) := by decide +kernel
theorem dL_589 : decode cL_law 589 = .ok (.if_icmp .eq 1043, 3) := by decide +kernel
theorem dL_592 : decode cL_law 592 = .ok (.iconst 0, 1) := by decide +kernel
theorem dL_593 : decode cL_law 593 = .ok (.ireturn, 1) := by decide +kernel
theorem dL_594 : decode cL_law 594 = .ok (.aload_n 1, 1) := by decide +kernel
theorem dL_595 : decode cL_law 595 = .ok (.aload_n 0, 1) := by decide +kernel
theorem dL_596 : decode cL_law 596 = .ok (.iload 4, 2) := by decide +kernel
theorem dL_598 : decode cL_law 598 = .ok (.iconst 1, 1) := by decide +kernel
theorem dL_599 : decode cL_law 599 = .ok (.iadd, 1) := by decide +kernel
theorem dL_600 : decode cL_law 600 = .ok (.iaload, 1) := by decide +kernel
theorem dL_601 : decode cL_law 601 = .ok (.invokevirtual 78, 3) := by decide +kernel
theorem dL_604 : decode cL_law 604 = .ok (.aload_n 2, 1) := by decide +kernel
theorem dL_605 : decode cL_law 605 = .ok (.aload_n 0, 1) := by decide +kernel
theorem dL_606 : decode cL_law 606 = .ok (.iload 4, 2) := by decide +kernel
theorem dL_608 : decode cL_law 608 = .ok (.iconst 1, 1) := by decide +kernel
theorem dL_609 : decode cL_law 609 = .ok (.iadd, 1) := by decide +kernel
theorem dL_610 : decode cL_law 610 = .ok (.iaload, 1) := by decide +kernel
theorem dL_611 : decode cL_law 611 = .ok (.invokevirtual 81, 3) := by decide +kernel
theorem dL_614 : decode cL_law 614 = .ok (.if_icmp .eq 1018, 3) := by decide +kernel
theorem dL_617 : decode cL_law 617 = .ok (.iconst 0, 1) := by decide +kernel
theorem dL_618 : decode cL_law 618 = .ok (.ireturn, 1) := by decide +kernel
theorem dL_619 : decode cL_law 619 = .ok (.aload_n 1, 1) := by decide +kernel
theorem dL_620 : decode cL_law 620 = .ok (.invokevirtual 82, 3) := by decide +kernel
theorem dL_623 : decode cL_law 623 = .ok (.aload_n 2, 1) := by decide +kernel
theorem dL_624 : decode cL_law 624 = .ok (.invokevirtual 85, 3) := by decide +kernel
theorem dL_627 : decode cL_law 627 = .ok (.if_icmp .eq 1005, 3) := by decide +kernel
theorem dL_630 : decode cL_law 630 = .ok (.iconst 0, 1) := by decide +kernel
theorem dL_631 : decode cL_law 631 = .ok (.ireturn, 1) := by decide +kernel
theorem dL_632 : decode cL_law 632 = .ok (.aload_n 1, 1) := by decide +kernel
theorem dL_633 : decode cL_law 633 = .ok (.invokevirtual 86, 3) := by decide +kernel
theorem dL_636 : decode cL_law 636 = .ok (.aload_n 2, 1) := by decide +kernel
theorem dL_637 : decode cL_law 637 = .ok (.invokevirtual 89, 3) := by decide +kernel
theorem dL_640 : decode cL_law 640 = .ok (.if_icmp .eq 992, 3) := by decide +kernel
theorem dL_643 : decode cL_law 643 = .ok (.iconst 0, 1) := by decide +kernel
theorem dL_644 : decode cL_law 644 = .ok (.ireturn, 1) := by decide +kernel
theorem dL_645 : decode cL_law 645 = .ok (.aload_n 1, 1) := by decide +kernel
theorem dL_646 : decode cL_law 646 = .ok (.aload_n 0, 1) := by decide +kernel
theorem dL_647 : decode cL_law 647 = .ok (.iload 4, 2) := by decide +kernel
theorem dL_649 : decode cL_law 649 = .ok (.iconst 1, 1) := by decide +kernel
theorem dL_650 : decode cL_law 650 = .ok (.iadd, 1) := by decide +kernel
theorem dL_651 : decode cL_law 651 = .ok (.iaload, 1) := by decide +kernel
theorem dL_652 : decode cL_law 652 = .ok (.invokevirtual 90, 3) := by decide +kernel
theorem dL_655 : decode cL_law 655 = .ok (.aload_n 2, 1) := by decide +kernel
theorem dL_656 : decode cL_law 656 = .ok (.aload_n 0, 1) := by decide +kernel
theorem dL_657 : decode cL_law 657 = .ok (.iload 4, 2) := by decide +kernel
theorem dL_659 : decode cL_law 659 = .ok (.iconst 1, 1) := by decide +kernel
theorem dL_660 : decode cL_law 660 = .ok (.iadd, 1) := by decide +kernel
theorem dL_661 : decode cL_law 661 = .ok (.iaload, 1) := by decide +kernel
theorem dL_662 : decode cL_law 662 = .ok (.invokevirtual 93, 3) := by decide +kernel
theorem dL_665 : decode cL_law 665 = .ok (.if_icmp .eq 967, 3) := by decide +kernel
theorem dL_668 : decode cL_law 668 = .ok (.iconst 0, 1) := by decide +kernel
theorem dL_669 : decode cL_law 669 = .ok (.ireturn, 1) := by decide +kernel
theorem dL_670 : decode cL_law 670 = .ok (.aload_n 1, 1) := by decide +kernel
theorem dL_671 : decode cL_law 671 = .ok (.aload_n 0, 1) := by decide +kernel
theorem dL_672 : decode cL_law 672 = .ok (.iload 4, 2) := by decide +kernel
theorem dL_674 : decode cL_law 674 = .ok (.iconst 1, 1) := by decide +kernel
theorem dL_675 : decode cL_law 675 = .ok (.iadd, 1) := by decide +kernel
theorem dL_676 : decode cL_law 676 = .ok (.iaload, 1) := by decide +kernel
theorem dL_677 : decode cL_law 677 = .ok (.invokevirtual 94, 3) := by decide +kernel
theorem dL_680 : decode cL_law 680 = .ok (.aload_n 2, 1) := by decide +kernel
theorem dL_681 : decode cL_law 681 = .ok (.aload_n 0, 1) := by decide +kernel
theorem dL_682 : decode cL_law 682 = .ok (.iload 4, 2) := by decide +kernel
theorem dL_684 : decode cL_law 684 = .ok (.iconst 1, 1) := by decide +kernel
theorem dL_685 : decode cL_law 685 = .ok (.iadd, 1) := by decide +kernel
theorem dL_686 : decode cL_law 686 = .ok (.iaload, 1) := by decide +kernel
theorem dL_687 : decode cL_law 687 = .ok (.invokevirtual 97, 3) := by decide +kernel
theorem dL_690 : decode cL_law 690 = .ok (.if_icmp .eq 942, 3) := by decide +kernel
theorem dL_693 : decode cL_law 693 = .ok (.iconst 0, 1) := by decide +kernel
theorem dL_694 : decode cL_law 694 = .ok (.ireturn, 1) := by decide +kernel
theorem dL_695 : decode cL_law 695 = .ok (.aload_n 1, 1) := by decide +kernel
theorem dL_696 : decode cL_law 696 = .ok (.aload_n 0, 1) := by decide +kernel
theorem dL_697 : decode cL_law 697 = .ok (.iload 4, 2) := by decide +kernel
theorem dL_699 : decode cL_law 699 = .ok (.iconst 1, 1) := by decide +kernel
theorem dL_700 : decode cL_law 700 = .ok (.iadd, 1) := by decide +kernel
theorem dL_701 : decode cL_law 701 = .ok (.iaload, 1) := by decide +kernel
theorem dL_702 : decode cL_law 702 = .ok (.aload_n 0, 1) := by decide +kernel
theorem dL_703 : decode cL_law 703 = .ok (.iload 4, 2) := by decide +kernel
theorem dL_705 : decode cL_law 705 = .ok (.iconst 2, 1) := by decide +kernel
theorem dL_706 : decode cL_law 706 = .ok (.iadd, 1) := by decide +kernel
theorem dL_707 : decode cL_law 707 = .ok (.iaload, 1) := by decide +kernel
theorem dL_708 : decode cL_law 708 = .ok (.invokevirtual 98, 3) := by decide +kernel
theorem dL_711 : decode cL_law 711 = .ok (.aload_n 2, 1) := by decide +kernel
theorem dL_712 : decode cL_law 712 = .ok (.aload_n 0, 1) := by decide +kernel
theorem dL_713 : decode cL_law 713 = .ok (.iload 4, 2) := by decide +kernel
theorem dL_715 : decode cL_law 715 = .ok (.iconst 1, 1) := by decide +kernel
theorem dL_716 : decode cL_law 716 = .ok (.iadd, 1) := by decide +kernel
theorem dL_717 : decode cL_law 717 = .ok (.iaload, 1) := by decide +kernel
theorem dL_718 : decode cL_law 718 = .ok (.aload_n 0, 1) := by decide +kernel
theorem dL_719 : decode cL_law 719 = .ok (.iload 4, 2) := by decide +kernel
theorem dL_721 : decode cL_law 721 = .ok (.iconst 2, 1) := by decide +kernel
theorem dL_722 : decode cL_law 722 = .ok (.iadd, 1) := by decide +kernel
theorem dL_723 : decode cL_law 723 = .ok (.iaload, 1) := by decide +kernel
theorem dL_724 : decode cL_law 724 = .ok (.invokevirtual 101, 3) := by decide +kernel
theorem dL_727 : decode cL_law 727 = .ok (.if_icmp .eq 905, 3) := by decide +kernel
theorem dL_730 : decode cL_law 730 = .ok (.iconst 0, 1) := by decide +kernel
theorem dL_731 : decode cL_law 731 = .ok (.ireturn, 1) := by decide +kernel
theorem dL_732 : decode cL_law 732 = .ok (.aload_n 1, 1) := by decide +kernel
theorem dL_733 : decode cL_law 733 = .ok (.aload_n 0, 1) := by decide +kernel
theorem dL_734 : decode cL_law 734 = .ok (.iload 4, 2) := by decide +kernel
theorem dL_736 : decode cL_law 736 = .ok (.iconst 1, 1) := by decide +kernel
theorem dL_737 : decode cL_law 737 = .ok (.iadd, 1) := by decide +kernel
theorem dL_738 : decode cL_law 738 = .ok (.iaload, 1) := by decide +kernel
theorem dL_739 : decode cL_law 739 = .ok (.invokevirtual 102, 3) := by decide +kernel
theorem dL_742 : decode cL_law 742 = .ok (.aload_n 2, 1) := by decide +kernel
theorem dL_743 : decode cL_law 743 = .ok (.aload_n 0, 1) := by decide +kernel
theorem dL_744 : decode cL_law 744 = .ok (.iload 4, 2) := by decide +kernel
theorem dL_746 : decode cL_law 746 = .ok (.iconst 1, 1) := by decide +kernel
theorem dL_747 : decode cL_law 747 = .ok (.iadd, 1) := by decide +kernel
theorem dL_748 : decode cL_law 748 = .ok (.iaload, 1) := by decide +kernel
theorem dL_749 : decode cL_law 749 = .ok (.invokevirtual 105, 3) := by decide +kernel
theorem dL_752 : decode cL_law 752 = .ok (.if_icmp .eq 880, 3) := by decide +kernel
theorem dL_755 : decode cL_law 755 = .ok (.iconst 0, 1) := by decide +kernel
theorem dL_756 : decode cL_law 756 = .ok (.ireturn, 1) := by decide +kernel
theorem dL_757 : decode cL_law 757 = .ok (.aload_n 1, 1) := by decide +kernel
theorem dL_758 : decode cL_law 758 = .ok (.aload_n 0, 1) := by decide +kernel
theorem dL_759 : decode cL_law 759 = .ok (.iload 4, 2) := by decide +kernel
theorem dL_761 : decode cL_law 761 = .ok (.iconst 1, 1) := by decide +kernel
theorem dL_762 : decode cL_law 762 = .ok (.iadd, 1) := by decide +kernel
theorem dL_763 : decode cL_law 763 = .ok (.iaload, 1) := by decide +kernel
theorem dL_764 : decode cL_law 764 = .ok (.aload_n 0, 1) := by decide +kernel
theorem dL_765 : decode cL_law 765 = .ok (.iload 4, 2) := by decide +kernel
theorem dL_767 : decode cL_law 767 = .ok (.iconst 2, 1) := by decide +kernel
theorem dL_768 : decode cL_law 768 = .ok (.iadd, 1) := by decide +kernel
theorem dL_769 : decode cL_law 769 = .ok (.iaload, 1) := by decide +kernel
theorem dL_770 : decode cL_law 770 = .ok (.invokevirtual 106, 3) := by decide +kernel
theorem dL_773 : decode cL_law 773 = .ok (.aload_n 2, 1) := by decide +kernel
theorem dL_774 : decode cL_law 774 = .ok (.aload_n 0, 1) := by decide +kernel
theorem dL_775 : decode cL_law 775 = .ok (.iload 4, 2) := by decide +kernel
theorem dL_777 : decode cL_law 777 = .ok (.iconst 1, 1) := by decide +kernel
theorem dL_778 : decode cL_law 778 = .ok (.iadd, 1) := by decide +kernel
theorem dL_779 : decode cL_law 779 = .ok (.iaload, 1) := by decide +kernel
theorem dL_780 : decode cL_law 780 = .ok (.aload_n 0, 1) := by decide +kernel
theorem dL_781 : decode cL_law 781 = .ok (.iload 4, 2) := by decide +kernel
theorem dL_783 : decode cL_law 783 = .ok (.iconst 2, 1) := by decide +kernel
theorem dL_784 : decode cL_law 784 = .ok (.iadd, 1) := by decide +kernel
theorem dL_785 : decode cL_law 785 = .ok (.iaload, 1) := by decide +kernel
theorem dL_786 : decode cL_law 786 = .ok (.invokevirtual 109, 3) := by decide +kernel
theorem dL_789 : decode cL_law 789 = .ok (.if_icmp .eq 843, 3) := by decide +kernel
theorem dL_792 : decode cL_law 792 = .ok (.iconst 0, 1) := by decide +kernel
theorem dL_793 : decode cL_law 793 = .ok (.ireturn, 1) := by decide +kernel
theorem dL_794 : decode cL_law 794 = .ok (.aload_n 1, 1) := by decide +kernel
theorem dL_795 : decode cL_law 795 = .ok (.aload_n 0, 1) := by decide +kernel
theorem dL_796 : decode cL_law 796 = .ok (.iload 4, 2) := by decide +kernel
theorem dL_798 : decode cL_law 798 = .ok (.iconst 1, 1) := by decide +kernel
theorem dL_799 : decode cL_law 799 = .ok (.iadd, 1) := by decide +kernel
theorem dL_800 : decode cL_law 800 = .ok (.iaload, 1) := by decide +kernel
theorem dL_801 : decode cL_law 801 = .ok (.aload_n 0, 1) := by decide +kernel
theorem dL_802 : decode cL_law 802 = .ok (.iload 4, 2) := by decide +kernel
theorem dL_804 : decode cL_law 804 = .ok (.iconst 2, 1) := by decide +kernel
theorem dL_805 : decode cL_law 805 = .ok (.iadd, 1) := by decide +kernel
theorem dL_806 : decode cL_law 806 = .ok (.iaload, 1) := by decide +kernel
theorem dL_807 : decode cL_law 807 = .ok (.invokevirtual 110, 3) := by decide +kernel
theorem dL_810 : decode cL_law 810 = .ok (.aload_n 2, 1) := by decide +kernel
theorem dL_811 : decode cL_law 811 = .ok (.aload_n 0, 1) := by decide +kernel
theorem dL_812 : decode cL_law 812 = .ok (.iload 4, 2) := by decide +kernel
theorem dL_814 : decode cL_law 814 = .ok (.iconst 1, 1) := by decide +kernel
theorem dL_815 : decode cL_law 815 = .ok (.iadd, 1) := by decide +kernel
theorem dL_816 : decode cL_law 816 = .ok (.iaload, 1) := by decide +kernel
theorem dL_817 : decode cL_law 817 = .ok (.aload_n 0, 1) := by decide +kernel
theorem dL_818 : decode cL_law 818 = .ok (.iload 4, 2) := by decide +kernel
theorem dL_820 : decode cL_law 820 = .ok (.iconst 2, 1) := by decide +kernel
theorem dL_821 : decode cL_law 821 = .ok (.iadd, 1) := by decide +kernel
theorem dL_822 : decode cL_law 822 = .ok (.iaload, 1) := by decide +kernel
theorem dL_823 : decode cL_law 823 = .ok (.invokevirtual 113, 3) := by decide +kernel
theorem dL_826 : decode cL_law 826 = .ok (.if_icmp .eq 806, 3) := by decide +kernel
theorem dL_829 : decode cL_law 829 = .ok (.iconst 0, 1) := by decide +kernel
theorem dL_830 : decode cL_law 830 = .ok (.ireturn, 1) := by decide +kernel
theorem dL_831 : decode cL_law 831 = .ok (.aload_n 1, 1) := by decide +kernel
theorem dL_832 : decode cL_law 832 = .ok (.aload_n 0, 1) := by decide +kernel
theorem dL_833 : decode cL_law 833 = .ok (.iload 4, 2) := by decide +kernel
theorem dL_835 : decode cL_law 835 = .ok (.iconst 1, 1) := by decide +kernel
theorem dL_836 : decode cL_law 836 = .ok (.iadd, 1) := by decide +kernel
theorem dL_837 : decode cL_law 837 = .ok (.iaload, 1) := by decide +kernel
theorem dL_838 : decode cL_law 838 = .ok (.aload_n 0, 1) := by decide +kernel
theorem dL_839 : decode cL_law 839 = .ok (.iload 4, 2) := by decide +kernel
theorem dL_841 : decode cL_law 841 = .ok (.iconst 2, 1) := by decide +kernel
theorem dL_842 : decode cL_law 842 = .ok (.iadd, 1) := by decide +kernel
theorem dL_843 : decode cL_law 843 = .ok (.iaload, 1) := by decide +kernel
theorem dL_844 : decode cL_law 844 = .ok (.invokevirtual 114, 3) := by decide +kernel
theorem dL_847 : decode cL_law 847 = .ok (.aload_n 2, 1) := by decide +kernel
theorem dL_848 : decode cL_law 848 = .ok (.aload_n 0, 1) := by decide +kernel
theorem dL_849 : decode cL_law 849 = .ok (.iload 4, 2) := by decide +kernel
theorem dL_851 : decode cL_law 851 = .ok (.iconst 1, 1) := by decide +kernel
theorem dL_852 : decode cL_law 852 = .ok (.iadd, 1) := by decide +kernel
theorem dL_853 : decode cL_law 853 = .ok (.iaload, 1) := by decide +kernel
theorem dL_854 : decode cL_law 854 = .ok (.aload_n 0, 1) := by decide +kernel
theorem dL_855 : decode cL_law 855 = .ok (.iload 4, 2) := by decide +kernel
theorem dL_857 : decode cL_law 857 = .ok (.iconst 2, 1) := by decide +kernel
theorem dL_858 : decode cL_law 858 = .ok (.iadd, 1) := by decide +kernel
theorem dL_859 : decode cL_law 859 = .ok (.iaload, 1) := by decide +kernel
theorem dL_860 : decode cL_law 860 = .ok (.invokevirtual 117, 3) := by decide +kernel
theorem dL_863 : decode cL_law 863 = .ok (.if_icmp .eq 769, 3) := by decide +kernel
theorem dL_866 : decode cL_law 866 = .ok (.iconst 0, 1) := by decide +kernel
theorem dL_867 : decode cL_law 867 = .ok (.ireturn, 1) := by decide +kernel
theorem dL_868 : decode cL_law 868 = .ok (.aload_n 1, 1) := by decide +kernel
theorem dL_869 : decode cL_law 869 = .ok (.aload_n 0, 1) := by decide +kernel
theorem dL_870 : decode cL_law 870 = .ok (.iload 4, 2) := by decide +kernel
theorem dL_872 : decode cL_law 872 = .ok (.iconst 1, 1) := by decide +kernel
theorem dL_873 : decode cL_law 873 = .ok (.iadd, 1) := by decide +kernel
theorem dL_874 : decode cL_law 874 = .ok (.iaload, 1) := by decide +kernel
theorem dL_875 : decode cL_law 875 = .ok (.aload_n 0, 1) := by decide +kernel
theorem dL_876 : decode cL_law 876 = .ok (.iload 4, 2) := by decide +kernel
theorem dL_878 : decode cL_law 878 = .ok (.iconst 2, 1) := by decide +kernel
theorem dL_879 : decode cL_law 879 = .ok (.iadd, 1) := by decide +kernel
theorem dL_880 : decode cL_law 880 = .ok (.iaload, 1) := by decide +kernel
theorem dL_881 : decode cL_law 881 = .ok (.aload_n 0, 1) := by decide +kernel
theorem dL_882 : decode cL_law 882 = .ok (.iload 4, 2) := by decide +kernel
theorem dL_884 : decode cL_law 884 = .ok (.iconst 3, 1) := by decide +kernel
theorem dL_885 : decode cL_law 885 = .ok (.iadd, 1) := by decide +kernel
theorem dL_886 : decode cL_law 886 = .ok (.iaload, 1) := by decide +kernel
theorem dL_887 : decode cL_law 887 = .ok (.invokevirtual 118, 3) := by decide +kernel
theorem dL_890 : decode cL_law 890 = .ok (.aload_n 2, 1) := by decide +kernel
theorem dL_891 : decode cL_law 891 = .ok (.aload_n 0, 1) := by decide +kernel
theorem dL_892 : decode cL_law 892 = .ok (.iload 4, 2) := by decide +kernel
theorem dL_894 : decode cL_law 894 = .ok (.iconst 1, 1) := by decide +kernel
theorem dL_895 : decode cL_law 895 = .ok (.iadd, 1) := by decide +kernel
theorem dL_896 : decode cL_law 896 = .ok (.iaload, 1) := by decide +kernel
theorem dL_897 : decode cL_law 897 = .ok (.aload_n 0, 1) := by decide +kernel
theorem dL_898 : decode cL_law 898 = .ok (.iload 4, 2) := by decide +kernel
theorem dL_900 : decode cL_law 900 = .ok (.iconst 2, 1) := by decide +kernel
theorem dL_901 : decode cL_law 901 = .ok (.iadd, 1) := by decide +kernel
theorem dL_902 : decode cL_law 902 = .ok (.iaload, 1) := by decide +kernel
theorem dL_903 : decode cL_law 903 = .ok (.aload_n 0, 1) := by decide +kernel
theorem dL_904 : decode cL_law 904 = .ok (.iload 4, 2) := by decide +kernel
theorem dL_906 : decode cL_law 906 = .ok (.iconst 3, 1) := by decide +kernel
theorem dL_907 : decode cL_law 907 = .ok (.iadd, 1) := by decide +kernel
theorem dL_908 : decode cL_law 908 = .ok (.iaload, 1) := by decide +kernel
theorem dL_909 : decode cL_law 909 = .ok (.invokevirtual 122, 3) := by decide +kernel
theorem dL_912 : decode cL_law 912 = .ok (.if_icmp .eq 720, 3) := by decide +kernel
theorem dL_915 : decode cL_law 915 = .ok (.iconst 0, 1) := by decide +kernel
theorem dL_916 : decode cL_law 916 = .ok (.ireturn, 1) := by decide +kernel
theorem dL_917 : decode cL_law 917 = .ok (.aload_n 1, 1) := by decide +kernel
theorem dL_918 : decode cL_law 918 = .ok (.aload_n 0, 1) := by decide +kernel
theorem dL_919 : decode cL_law 919 = .ok (.iload 4, 2) := by decide +kernel
theorem dL_921 : decode cL_law 921 = .ok (.iconst 1, 1) := by decide +kernel
theorem dL_922 : decode cL_law 922 = .ok (.iadd, 1) := by decide +kernel
theorem dL_923 : decode cL_law 923 = .ok (.iaload, 1) := by decide +kernel
theorem dL_924 : decode cL_law 924 = .ok (.aload_n 0, 1) := by decide +kernel
theorem dL_925 : decode cL_law 925 = .ok (.iload 4, 2) := by decide +kernel
theorem dL_927 : decode cL_law 927 = .ok (.iconst 2, 1) := by decide +kernel
theorem dL_928 : decode cL_law 928 = .ok (.iadd, 1) := by decide +kernel
theorem dL_929 : decode cL_law 929 = .ok (.iaload, 1) := by decide +kernel
theorem dL_930 : decode cL_law 930 = .ok (.aload_n 0, 1) := by decide +kernel
theorem dL_931 : decode cL_law 931 = .ok (.iload 4, 2) := by decide +kernel
theorem dL_933 : decode cL_law 933 = .ok (.iconst 3, 1) := by decide +kernel
theorem dL_934 : decode cL_law 934 = .ok (.iadd, 1) := by decide +kernel
theorem dL_935 : decode cL_law 935 = .ok (.iaload, 1) := by decide +kernel
theorem dL_936 : decode cL_law 936 = .ok (.invokevirtual 123, 3) := by decide +kernel
theorem dL_939 : decode cL_law 939 = .ok (.aload_n 2, 1) := by decide +kernel
theorem dL_940 : decode cL_law 940 = .ok (.aload_n 0, 1) := by decide +kernel
theorem dL_941 : decode cL_law 941 = .ok (.iload 4, 2) := by decide +kernel
theorem dL_943 : decode cL_law 943 = .ok (.iconst 1, 1) := by decide +kernel
theorem dL_944 : decode cL_law 944 = .ok (.iadd, 1) := by decide +kernel
theorem dL_945 : decode cL_law 945 = .ok (.iaload, 1) := by decide +kernel
theorem dL_946 : decode cL_law 946 = .ok (.aload_n 0, 1) := by decide +kernel
theorem dL_947 : decode cL_law 947 = .ok (.iload 4, 2) := by decide +kernel
theorem dL_949 : decode cL_law 949 = .ok (.iconst 2, 1) := by decide +kernel
theorem dL_950 : decode cL_law 950 = .ok (.iadd, 1) := by decide +kernel
theorem dL_951 : decode cL_law 951 = .ok (.iaload, 1) := by decide +kernel
theorem dL_952 : decode cL_law 952 = .ok (.aload_n 0, 1) := by decide +kernel
theorem dL_953 : decode cL_law 953 = .ok (.iload 4, 2) := by decide +kernel
theorem dL_955 : decode cL_law 955 = .ok (.iconst 3, 1) := by decide +kernel
theorem dL_956 : decode cL_law 956 = .ok (.iadd, 1) := by decide +kernel
theorem dL_957 : decode cL_law 957 = .ok (.iaload, 1) := by decide +kernel
theorem dL_958 : decode cL_law 958 = .ok (.invokevirtual 126, 3) := by decide +kernel
theorem dL_961 : decode cL_law 961 = .ok (.if_icmp .eq 671, 3) := by decide +kernel
theorem dL_964 : decode cL_law 964 = .ok (.iconst 0, 1) := by decide +kernel
theorem dL_965 : decode cL_law 965 = .ok (.ireturn, 1) := by decide +kernel
theorem dL_966 : decode cL_law 966 = .ok (.aload_n 1, 1) := by decide +kernel
theorem dL_967 : decode cL_law 967 = .ok (.aload_n 0, 1) := by decide +kernel
theorem dL_968 : decode cL_law 968 = .ok (.iload 4, 2) := by decide +kernel
theorem dL_970 : decode cL_law 970 = .ok (.iconst 1, 1) := by decide +kernel
theorem dL_971 : decode cL_law 971 = .ok (.iadd, 1) := by decide +kernel
theorem dL_972 : decode cL_law 972 = .ok (.iaload, 1) := by decide +kernel
theorem dL_973 : decode cL_law 973 = .ok (.aload_n 0, 1) := by decide +kernel
theorem dL_974 : decode cL_law 974 = .ok (.iload 4, 2) := by decide +kernel
theorem dL_976 : decode cL_law 976 = .ok (.iconst 2, 1) := by decide +kernel
theorem dL_977 : decode cL_law 977 = .ok (.iadd, 1) := by decide +kernel
theorem dL_978 : decode cL_law 978 = .ok (.iaload, 1) := by decide +kernel
theorem dL_979 : decode cL_law 979 = .ok (.aload_n 0, 1) := by decide +kernel
theorem dL_980 : decode cL_law 980 = .ok (.iload 4, 2) := by decide +kernel
theorem dL_982 : decode cL_law 982 = .ok (.iconst 3, 1) := by decide +kernel
theorem dL_983 : decode cL_law 983 = .ok (.iadd, 1) := by decide +kernel
theorem dL_984 : decode cL_law 984 = .ok (.iaload, 1) := by decide +kernel
theorem dL_985 : decode cL_law 985 = .ok (.invokevirtual 127, 3) := by decide +kernel
theorem dL_988 : decode cL_law 988 = .ok (.aload_n 2, 1) := by decide +kernel
theorem dL_989 : decode cL_law 989 = .ok (.aload_n 0, 1) := by decide +kernel
theorem dL_990 : decode cL_law 990 = .ok (.iload 4, 2) := by decide +kernel
theorem dL_992 : decode cL_law 992 = .ok (.iconst 1, 1) := by decide +kernel
theorem dL_993 : decode cL_law 993 = .ok (.iadd, 1) := by decide +kernel
theorem dL_994 : decode cL_law 994 = .ok (.iaload, 1) := by decide +kernel
theorem dL_995 : decode cL_law 995 = .ok (.aload_n 0, 1) := by decide +kernel
theorem dL_996 : decode cL_law 996 = .ok (.iload 4, 2) := by decide +kernel
theorem dL_998 : decode cL_law 998 = .ok (.iconst 2, 1) := by decide +kernel
theorem dL_999 : decode cL_law 999 = .ok (.iadd, 1) := by decide +kernel
theorem dL_1000 : decode cL_law 1000 = .ok (.iaload, 1) := by decide +kernel
theorem dL_1001 : decode cL_law 1001 = .ok (.aload_n 0, 1) := by decide +kernel
theorem dL_1002 : decode cL_law 1002 = .ok (.iload 4, 2) := by decide +kernel
theorem dL_1004 : decode cL_law 1004 = .ok (.iconst 3, 1) := by decide +kernel
theorem dL_1005 : decode cL_law 1005 = .ok (.iadd, 1) := by decide +kernel
theorem dL_1006 : decode cL_law 1006 = .ok (.iaload, 1) := by decide +kernel
theorem dL_1007 : decode cL_law 1007 = .ok (.invokevirtual 130, 3) := by decide +kernel
theorem dL_1010 : decode cL_law 1010 = .ok (.if_icmp .eq 622, 3) := by decide +kernel
theorem dL_1013 : decode cL_law 1013 = .ok (.iconst 0, 1) := by decide +kernel
theorem dL_1014 : decode cL_law 1014 = .ok (.ireturn, 1) := by decide +kernel
theorem dL_1015 : decode cL_law 1015 = .ok (.aload_n 1, 1) := by decide +kernel
theorem dL_1016 : decode cL_law 1016 = .ok (.aload_n 0, 1) := by decide +kernel
theorem dL_1017 : decode cL_law 1017 = .ok (.iload 4, 2) := by decide +kernel
theorem dL_1019 : decode cL_law 1019 = .ok (.iconst 1, 1) := by decide +kernel
theorem dL_1020 : decode cL_law 1020 = .ok (.iadd, 1) := by decide +kernel
theorem dL_1021 : decode cL_law 1021 = .ok (.iaload, 1) := by decide +kernel
theorem dL_1022 : decode cL_law 1022 = .ok (.aload_n 0, 1) := by decide +kernel
theorem dL_1023 : decode cL_law 1023 = .ok (.iload 4, 2) := by decide +kernel
theorem dL_1025 : decode cL_law 1025 = .ok (.iconst 2, 1) := by decide +kernel
theorem dL_1026 : decode cL_law 1026 = .ok (.iadd, 1) := by decide +kernel
theorem dL_1027 : decode cL_law 1027 = .ok (.iaload, 1) := by decide +kernel
theorem dL_1028 : decode cL_law 1028 = .ok (.invokevirtual 131, 3) := by decide +kernel
theorem dL_1031 : decode cL_law 1031 = .ok (.aload_n 2, 1) := by decide +kernel
theorem dL_1032 : decode cL_law 1032 = .ok (.aload_n 0, 1) := by decide +kernel
theorem dL_1033 : decode cL_law 1033 = .ok (.iload 4, 2) := by decide +kernel
theorem dL_1035 : decode cL_law 1035 = .ok (.iconst 1, 1) := by decide +kernel
theorem dL_1036 : decode cL_law 1036 = .ok (.iadd, 1) := by decide +kernel
theorem dL_1037 : decode cL_law 1037 = .ok (.iaload, 1) := by decide +kernel
theorem dL_1038 : decode cL_law 1038 = .ok (.aload_n 0, 1) := by decide +kernel
theorem dL_1039 : decode cL_law 1039 = .ok (.iload 4, 2) := by decide +kernel
theorem dL_1041 : decode cL_law 1041 = .ok (.iconst 2, 1) := by decide +kernel
theorem dL_1042 : decode cL_law 1042 = .ok (.iadd, 1) := by decide +kernel
theorem dL_1043 : decode cL_law 1043 = .ok (.iaload, 1) := by decide +kernel
theorem dL_1044 : decode cL_law 1044 = .ok (.invokevirtual 134, 3) := by decide +kernel
theorem dL_1047 : decode cL_law 1047 = .ok (.if_icmp .eq 585, 3) := by decide +kernel
theorem dL_1050 : decode cL_law 1050 = .ok (.iconst 0, 1) := by decide +kernel
theorem dL_1051 : decode cL_law 1051 = .ok (.ireturn, 1) := by decide +kernel
theorem dL_1052 : decode cL_law 1052 = .ok (.aload_n 1, 1) := by decide +kernel
theorem dL_1053 : decode cL_law 1053 = .ok (.aload_n 0, 1) := by decide +kernel
theorem dL_1054 : decode cL_law 1054 = .ok (.iload 4, 2) := by decide +kernel
theorem dL_1056 : decode cL_law 1056 = .ok (.iconst 1, 1) := by decide +kernel
theorem dL_1057 : decode cL_law 1057 = .ok (.iadd, 1) := by decide +kernel
theorem dL_1058 : decode cL_law 1058 = .ok (.iaload, 1) := by decide +kernel
theorem dL_1059 : decode cL_law 1059 = .ok (.aload_n 0, 1) := by decide +kernel
theorem dL_1060 : decode cL_law 1060 = .ok (.iload 4, 2) := by decide +kernel
theorem dL_1062 : decode cL_law 1062 = .ok (.iconst 2, 1) := by decide +kernel
theorem dL_1063 : decode cL_law 1063 = .ok (.iadd, 1) := by decide +kernel
theorem dL_1064 : decode cL_law 1064 = .ok (.iaload, 1) := by decide +kernel
theorem dL_1065 : decode cL_law 1065 = .ok (.invokevirtual 135, 3) := by decide +kernel
theorem dL_1068 : decode cL_law 1068 = .ok (.aload_n 2, 1) := by decide +kernel
theorem dL_1069 : decode cL_law 1069 = .ok (.aload_n 0, 1) := by decide +kernel
theorem dL_1070 : decode cL_law 1070 = .ok (.iload 4, 2) := by decide +kernel
theorem dL_1072 : decode cL_law 1072 = .ok (.iconst 1, 1) := by decide +kernel
theorem dL_1073 : decode cL_law 1073 = .ok (.iadd, 1) := by decide +kernel
theorem dL_1074 : decode cL_law 1074 = .ok (.iaload, 1) := by decide +kernel
theorem dL_1075 : decode cL_law 1075 = .ok (.aload_n 0, 1) := by decide +kernel
theorem dL_1076 : decode cL_law 1076 = .ok (.iload 4, 2) := by decide +kernel
theorem dL_1078 : decode cL_law 1078 = .ok (.iconst 2, 1) := by decide +kernel
theorem dL_1079 : decode cL_law 1079 = .ok (.iadd, 1) := by decide +kernel
theorem dL_1080 : decode cL_law 1080 = .ok (.iaload, 1) := by decide +kernel
theorem dL_1081 : decode cL_law 1081 = .ok (.invokevirtual 138, 3) := by decide +kernel
theorem dL_1084 : decode cL_law 1084 = .ok (.if_icmp .eq 548, 3) := by decide +kernel
theorem dL_1087 : decode cL_law 1087 = .ok (.iconst 0, 1) := by decide +kernel
theorem dL_1088 : decode cL_law 1088 = .ok (.ireturn, 1) := by decide +kernel
theorem dL_1089 : decode cL_law 1089 = .ok (.aload_n 1, 1) := by decide +kernel
theorem dL_1090 : decode cL_law 1090 = .ok (.invokevirtual 139, 3) := by decide +kernel
theorem dL_1093 : decode cL_law 1093 = .ok (.aload_n 2, 1) := by decide +kernel
theorem dL_1094 : decode cL_law 1094 = .ok (.invokevirtual 142, 3) := by decide +kernel
theorem dL_1097 : decode cL_law 1097 = .ok (.if_icmp .eq 535, 3) := by decide +kernel
theorem dL_1100 : decode cL_law 1100 = .ok (.iconst 0, 1) := by decide +kernel
theorem dL_1101 : decode cL_law 1101 = .ok (.ireturn, 1) := by decide +kernel
theorem dL_1102 : decode cL_law 1102 = .ok (.aload_n 1, 1) := by decide +kernel
theorem dL_1103 : decode cL_law 1103 = .ok (.aload_n 0, 1) := by decide +kernel
theorem dL_1104 : decode cL_law 1104 = .ok (.iload 4, 2) := by decide +kernel
theorem dL_1106 : decode cL_law 1106 = .ok (.iconst 1, 1) := by decide +kernel
theorem dL_1107 : decode cL_law 1107 = .ok (.iadd, 1) := by decide +kernel
theorem dL_1108 : decode cL_law 1108 = .ok (.iaload, 1) := by decide +kernel
theorem dL_1109 : decode cL_law 1109 = .ok (.aload_n 0, 1) := by decide +kernel
theorem dL_1110 : decode cL_law 1110 = .ok (.iload 4, 2) := by decide +kernel
theorem dL_1112 : decode cL_law 1112 = .ok (.iconst 2, 1) := by decide +kernel
theorem dL_1113 : decode cL_law 1113 = .ok (.iadd, 1) := by decide +kernel
theorem dL_1114 : decode cL_law 1114 = .ok (.iaload, 1) := by decide +kernel
theorem dL_1115 : decode cL_law 1115 = .ok (.invokevirtual 143, 3) := by decide +kernel
theorem dL_1118 : decode cL_law 1118 = .ok (.aload_n 2, 1) := by decide +kernel
theorem dL_1119 : decode cL_law 1119 = .ok (.aload_n 0, 1) := by decide +kernel
theorem dL_1120 : decode cL_law 1120 = .ok (.iload 4, 2) := by decide +kernel
theorem dL_1122 : decode cL_law 1122 = .ok (.iconst 1, 1) := by decide +kernel
theorem dL_1123 : decode cL_law 1123 = .ok (.iadd, 1) := by decide +kernel
theorem dL_1124 : decode cL_law 1124 = .ok (.iaload, 1) := by decide +kernel
theorem dL_1125 : decode cL_law 1125 = .ok (.aload_n 0, 1) := by decide +kernel
theorem dL_1126 : decode cL_law 1126 = .ok (.iload 4, 2) := by decide +kernel
theorem dL_1128 : decode cL_law 1128 = .ok (.iconst 2, 1) := by decide +kernel
theorem dL_1129 : decode cL_law 1129 = .ok (.iadd, 1) := by decide +kernel
theorem dL_1130 : decode cL_law 1130 = .ok (.iaload, 1) := by decide +kernel
theorem dL_1131 : decode cL_law 1131 = .ok (.invokevirtual 146, 3) := by decide +kernel
theorem dL_1134 : decode cL_law 1134 = .ok (.if_icmp .eq 498, 3) := by decide +kernel
theorem dL_1137 : decode cL_law 1137 = .ok (.iconst 0, 1) := by decide +kernel
theorem dL_1138 : decode cL_law 1138 = .ok (.ireturn, 1) := by decide +kernel
theorem dL_1139 : decode cL_law 1139 = .ok (.aload_n 1, 1) := by decide +kernel
theorem dL_1140 : decode cL_law 1140 = .ok (.aload_n 0, 1) := by decide +kernel
theorem dL_1141 : decode cL_law 1141 = .ok (.iload 4, 2) := by decide +kernel
theorem dL_1143 : decode cL_law 1143 = .ok (.iconst 1, 1) := by decide +kernel
theorem dL_1144 : decode cL_law 1144 = .ok (.iadd, 1) := by decide +kernel
theorem dL_1145 : decode cL_law 1145 = .ok (.iaload, 1) := by decide +kernel
theorem dL_1146 : decode cL_law 1146 = .ok (.aload_n 0, 1) := by decide +kernel
theorem dL_1147 : decode cL_law 1147 = .ok (.iload 4, 2) := by decide +kernel
theorem dL_1149 : decode cL_law 1149 = .ok (.iconst 2, 1) := by decide +kernel
theorem dL_1150 : decode cL_law 1150 = .ok (.iadd, 1) := by decide +kernel
theorem dL_1151 : decode cL_law 1151 = .ok (.iaload, 1) := by decide +kernel
theorem dL_1152 : decode cL_law 1152 = .ok (.invokevirtual 147, 3) := by decide +kernel
theorem dL_1155 : decode cL_law 1155 = .ok (.aload_n 2, 1) := by decide +kernel
theorem dL_1156 : decode cL_law 1156 = .ok (.aload_n 0, 1) := by decide +kernel
theorem dL_1157 : decode cL_law 1157 = .ok (.iload 4, 2) := by decide +kernel
theorem dL_1159 : decode cL_law 1159 = .ok (.iconst 1, 1) := by decide +kernel
theorem dL_1160 : decode cL_law 1160 = .ok (.iadd, 1) := by decide +kernel
theorem dL_1161 : decode cL_law 1161 = .ok (.iaload, 1) := by decide +kernel
theorem dL_1162 : decode cL_law 1162 = .ok (.aload_n 0, 1) := by decide +kernel
theorem dL_1163 : decode cL_law 1163 = .ok (.iload 4, 2) := by decide +kernel
theorem dL_1165 : decode cL_law 1165 = .ok (.iconst 2, 1) := by decide +kernel
theorem dL_1166 : decode cL_law 1166 = .ok (.iadd, 1) := by decide +kernel
theorem dL_1167 : decode cL_law 1167 = .ok (.iaload, 1) := by decide +kernel
theorem dL_1168 : decode cL_law 1168 = .ok (.invokevirtual 150, 3) := by decide +kernel
theorem dL_1171 : decode cL_law 1171 = .ok (.if_icmp .eq 461, 3) := by decide +kernel
theorem dL_1174 : decode cL_law 1174 = .ok (.iconst 0, 1) := by decide +kernel
theorem dL_1175 : decode cL_law 1175 = .ok (.ireturn, 1) := by decide +kernel
theorem dL_1176 : decode cL_law 1176 = .ok (.aload_n 1, 1) := by decide +kernel
theorem dL_1177 : decode cL_law 1177 = .ok (.aload_n 0, 1) := by decide +kernel
theorem dL_1178 : decode cL_law 1178 = .ok (.iload 4, 2) := by decide +kernel
theorem dL_1180 : decode cL_law 1180 = .ok (.iconst 1, 1) := by decide +kernel
theorem dL_1181 : decode cL_law 1181 = .ok (.iadd, 1) := by decide +kernel
theorem dL_1182 : decode cL_law 1182 = .ok (.iaload, 1) := by decide +kernel
theorem dL_1183 : decode cL_law 1183 = .ok (.invokevirtual 151, 3) := by decide +kernel
theorem dL_1186 : decode cL_law 1186 = .ok (.aload_n 2, 1) := by decide +kernel
theorem dL_1187 : decode cL_law 1187 = .ok (.aload_n 0, 1) := by decide +kernel
theorem dL_1188 : decode cL_law 1188 = .ok (.iload 4, 2) := by decide +kernel
theorem dL_1190 : decode cL_law 1190 = .ok (.iconst 1, 1) := by decide +kernel
theorem dL_1191 : decode cL_law 1191 = .ok (.iadd, 1) := by decide +kernel
theorem dL_1192 : decode cL_law 1192 = .ok (.iaload, 1) := by decide +kernel
theorem dL_1193 : decode cL_law 1193 = .ok (.invokevirtual 154, 3) := by decide +kernel
theorem dL_1196 : decode cL_law 1196 = .ok (.if_icmp .eq 436, 3) := by decide +kernel
theorem dL_1199 : decode cL_law 1199 = .ok (.iconst 0, 1) := by decide +kernel
theorem dL_1200 : decode cL_law 1200 = .ok (.ireturn, 1) := by decide +kernel
theorem dL_1201 : decode cL_law 1201 = .ok (.aload_n 1, 1) := by decide +kernel
theorem dL_1202 : decode cL_law 1202 = .ok (.aload_n 0, 1) := by decide +kernel
theorem dL_1203 : decode cL_law 1203 = .ok (.iload 4, 2) := by decide +kernel
theorem dL_1205 : decode cL_law 1205 = .ok (.iconst 1, 1) := by decide +kernel
theorem dL_1206 : decode cL_law 1206 = .ok (.iadd, 1) := by decide +kernel
theorem dL_1207 : decode cL_law 1207 = .ok (.iaload, 1) := by decide +kernel
theorem dL_1208 : decode cL_law 1208 = .ok (.invokevirtual 155, 3) := by decide +kernel
theorem dL_1211 : decode cL_law 1211 = .ok (.aload_n 2, 1) := by decide +kernel
theorem dL_1212 : decode cL_law 1212 = .ok (.aload_n 0, 1) := by decide +kernel
theorem dL_1213 : decode cL_law 1213 = .ok (.iload 4, 2) := by decide +kernel
theorem dL_1215 : decode cL_law 1215 = .ok (.iconst 1, 1) := by decide +kernel
theorem dL_1216 : decode cL_law 1216 = .ok (.iadd, 1) := by decide +kernel
theorem dL_1217 : decode cL_law 1217 = .ok (.iaload, 1) := by decide +kernel
theorem dL_1218 : decode cL_law 1218 = .ok (.invokevirtual 158, 3) := by decide +kernel
theorem dL_1221 : decode cL_law 1221 = .ok (.if_icmp .eq 411, 3) := by decide +kernel
theorem dL_1224 : decode cL_law 1224 = .ok (.iconst 0, 1) := by decide +kernel
theorem dL_1225 : decode cL_law 1225 = .ok (.ireturn, 1) := by decide +kernel
theorem dL_1226 : decode cL_law 1226 = .ok (.aload_n 1, 1) := by decide +kernel
theorem dL_1227 : decode cL_law 1227 = .ok (.invokevirtual 159, 3) := by decide +kernel
theorem dL_1230 : decode cL_law 1230 = .ok (.aload_n 2, 1) := by decide +kernel
theorem dL_1231 : decode cL_law 1231 = .ok (.invokevirtual 162, 3) := by decide +kernel
theorem dL_1234 : decode cL_law 1234 = .ok (.if_icmp .eq 398, 3) := by decide +kernel
theorem dL_1237 : decode cL_law 1237 = .ok (.iconst 0, 1) := by decide +kernel
theorem dL_1238 : decode cL_law 1238 = .ok (.ireturn, 1) := by decide +kernel
theorem dL_1239 : decode cL_law 1239 = .ok (.aload_n 1, 1) := by decide +kernel
theorem dL_1240 : decode cL_law 1240 = .ok (.invokevirtual 163, 3) := by decide +kernel
theorem dL_1243 : decode cL_law 1243 = .ok (.aload_n 2, 1) := by decide +kernel
theorem dL_1244 : decode cL_law 1244 = .ok (.invokevirtual 166, 3) := by decide +kernel
theorem dL_1247 : decode cL_law 1247 = .ok (.if_icmp .eq 385, 3) := by decide +kernel
theorem dL_1250 : decode cL_law 1250 = .ok (.iconst 0, 1) := by decide +kernel
theorem dL_1251 : decode cL_law 1251 = .ok (.ireturn, 1) := by decide +kernel
theorem dL_1252 : decode cL_law 1252 = .ok (.aload_n 1, 1) := by decide +kernel
theorem dL_1253 : decode cL_law 1253 = .ok (.invokevirtual 167, 3) := by decide +kernel
theorem dL_1256 : decode cL_law 1256 = .ok (.aload_n 2, 1) := by decide +kernel
theorem dL_1257 : decode cL_law 1257 = .ok (.invokevirtual 170, 3) := by decide +kernel
theorem dL_1260 : decode cL_law 1260 = .ok (.if_icmp .eq 372, 3) := by decide +kernel
theorem dL_1263 : decode cL_law 1263 = .ok (.iconst 0, 1) := by decide +kernel
theorem dL_1264 : decode cL_law 1264 = .ok (.ireturn, 1) := by decide +kernel
theorem dL_1265 : decode cL_law 1265 = .ok (.aload_n 1, 1) := by decide +kernel
theorem dL_1266 : decode cL_law 1266 = .ok (.aload_n 0, 1) := by decide +kernel
theorem dL_1267 : decode cL_law 1267 = .ok (.iload 4, 2) := by decide +kernel
theorem dL_1269 : decode cL_law 1269 = .ok (.iconst 1, 1) := by decide +kernel
theorem dL_1270 : decode cL_law 1270 = .ok (.iadd, 1) := by decide +kernel
theorem dL_1271 : decode cL_law 1271 = .ok (.iaload, 1) := by decide +kernel
theorem dL_1272 : decode cL_law 1272 = .ok (.invokevirtual 171, 3) := by decide +kernel
theorem dL_1275 : decode cL_law 1275 = .ok (.aload_n 2, 1) := by decide +kernel
theorem dL_1276 : decode cL_law 1276 = .ok (.aload_n 0, 1) := by decide +kernel
theorem dL_1277 : decode cL_law 1277 = .ok (.iload 4, 2) := by decide +kernel
theorem dL_1279 : decode cL_law 1279 = .ok (.iconst 1, 1) := by decide +kernel
theorem dL_1280 : decode cL_law 1280 = .ok (.iadd, 1) := by decide +kernel
theorem dL_1281 : decode cL_law 1281 = .ok (.iaload, 1) := by decide +kernel
theorem dL_1282 : decode cL_law 1282 = .ok (.invokevirtual 174, 3) := by decide +kernel
theorem dL_1285 : decode cL_law 1285 = .ok (.if_icmp .eq 347, 3) := by decide +kernel
theorem dL_1288 : decode cL_law 1288 = .ok (.iconst 0, 1) := by decide +kernel
theorem dL_1289 : decode cL_law 1289 = .ok (.ireturn, 1) := by decide +kernel
theorem dL_1290 : decode cL_law 1290 = .ok (.aload_n 1, 1) := by decide +kernel
theorem dL_1291 : decode cL_law 1291 = .ok (.aload_n 0, 1) := by decide +kernel
theorem dL_1292 : decode cL_law 1292 = .ok (.iload 4, 2) := by decide +kernel
theorem dL_1294 : decode cL_law 1294 = .ok (.iconst 1, 1) := by decide +kernel
theorem dL_1295 : decode cL_law 1295 = .ok (.iadd, 1) := by decide +kernel
theorem dL_1296 : decode cL_law 1296 = .ok (.iaload, 1) := by decide +kernel
theorem dL_1297 : decode cL_law 1297 = .ok (.invokevirtual 175, 3) := by decide +kernel
theorem dL_1300 : decode cL_law 1300 = .ok (.aload_n 2, 1) := by decide +kernel
theorem dL_1301 : decode cL_law 1301 = .ok (.aload_n 0, 1) := by decide +kernel
theorem dL_1302 : decode cL_law 1302 = .ok (.iload 4, 2) := by decide +kernel
theorem dL_1304 : decode cL_law 1304 = .ok (.iconst 1, 1) := by decide +kernel
theorem dL_1305 : decode cL_law 1305 = .ok (.iadd, 1) := by decide +kernel
theorem dL_1306 : decode cL_law 1306 = .ok (.iaload, 1) := by decide +kernel
theorem dL_1307 : decode cL_law 1307 = .ok (.invokevirtual 178, 3) := by decide +kernel
theorem dL_1310 : decode cL_law 1310 = .ok (.if_icmp .eq 322, 3) := by decide +kernel
theorem dL_1313 : decode cL_law 1313 = .ok (.iconst 0, 1) := by decide +kernel
theorem dL_1314 : decode cL_law 1314 = .ok (.ireturn, 1) := by decide +kernel
theorem dL_1315 : decode cL_law 1315 = .ok (.aload_n 1, 1) := by decide +kernel
theorem dL_1316 : decode cL_law 1316 = .ok (.invokevirtual 179, 3) := by decide +kernel
theorem dL_1319 : decode cL_law 1319 = .ok (.aload_n 2, 1) := by decide +kernel
theorem dL_1320 : decode cL_law 1320 = .ok (.invokevirtual 182, 3) := by decide +kernel
theorem dL_1323 : decode cL_law 1323 = .ok (.if_icmp .eq 309, 3) := by decide +kernel
theorem dL_1326 : decode cL_law 1326 = .ok (.iconst 0, 1) := by decide +kernel
theorem dL_1327 : decode cL_law 1327 = .ok (.ireturn, 1) := by decide +kernel
theorem dL_1328 : decode cL_law 1328 = .ok (.aload_n 1, 1) := by decide +kernel
theorem dL_1329 : decode cL_law 1329 = .ok (.aload_n 0, 1) := by decide +kernel
theorem dL_1330 : decode cL_law 1330 = .ok (.iload 4, 2) := by decide +kernel
theorem dL_1332 : decode cL_law 1332 = .ok (.iconst 1, 1) := by decide +kernel
theorem dL_1333 : decode cL_law 1333 = .ok (.iadd, 1) := by decide +kernel
theorem dL_1334 : decode cL_law 1334 = .ok (.iaload, 1) := by decide +kernel
theorem dL_1335 : decode cL_law 1335 = .ok (.invokevirtual 183, 3) := by decide +kernel
theorem dL_1338 : decode cL_law 1338 = .ok (.aload_n 2, 1) := by decide +kernel
theorem dL_1339 : decode cL_law 1339 = .ok (.aload_n 0, 1) := by decide +kernel
theorem dL_1340 : decode cL_law 1340 = .ok (.iload 4, 2) := by decide +kernel
theorem dL_1342 : decode cL_law 1342 = .ok (.iconst 1, 1) := by decide +kernel
theorem dL_1343 : decode cL_law 1343 = .ok (.iadd, 1) := by decide +kernel
theorem dL_1344 : decode cL_law 1344 = .ok (.iaload, 1) := by decide +kernel
theorem dL_1345 : decode cL_law 1345 = .ok (.invokevirtual 186, 3) := by decide +kernel
theorem dL_1348 : decode cL_law 1348 = .ok (.if_icmp .eq 284, 3) := by decide +kernel
theorem dL_1351 : decode cL_law 1351 = .ok (.iconst 0, 1) := by decide +kernel
theorem dL_1352 : decode cL_law 1352 = .ok (.ireturn, 1) := by decide +kernel
theorem dL_1353 : decode cL_law 1353 = .ok (.aload_n 1, 1) := by decide +kernel
theorem dL_1354 : decode cL_law 1354 = .ok (.aload_n 0, 1) := by decide +kernel
theorem dL_1355 : decode cL_law 1355 = .ok (.iload 4, 2) := by decide +kernel
theorem dL_1357 : decode cL_law 1357 = .ok (.iconst 1, 1) := by decide +kernel
theorem dL_1358 : decode cL_law 1358 = .ok (.iadd, 1) := by decide +kernel
theorem dL_1359 : decode cL_law 1359 = .ok (.iaload, 1) := by decide +kernel
theorem dL_1360 : decode cL_law 1360 = .ok (.invokevirtual 187, 3) := by decide +kernel
theorem dL_1363 : decode cL_law 1363 = .ok (.aload_n 2, 1) := by decide +kernel
theorem dL_1364 : decode cL_law 1364 = .ok (.aload_n 0, 1) := by decide +kernel
theorem dL_1365 : decode cL_law 1365 = .ok (.iload 4, 2) := by decide +kernel
theorem dL_1367 : decode cL_law 1367 = .ok (.iconst 1, 1) := by decide +kernel
theorem dL_1368 : decode cL_law 1368 = .ok (.iadd, 1) := by decide +kernel
theorem dL_1369 : decode cL_law 1369 = .ok (.iaload, 1) := by decide +kernel
theorem dL_1370 : decode cL_law 1370 = .ok (.invokevirtual 190, 3) := by decide +kernel
theorem dL_1373 : decode cL_law 1373 = .ok (.if_icmp .eq 259, 3) := by decide +kernel
theorem dL_1376 : decode cL_law 1376 = .ok (.iconst 0, 1) := by decide +kernel
theorem dL_1377 : decode cL_law 1377 = .ok (.ireturn, 1) := by decide +kernel
theorem dL_1378 : decode cL_law 1378 = .ok (.aload_n 1, 1) := by decide +kernel
theorem dL_1379 : decode cL_law 1379 = .ok (.invokevirtual 191, 3) := by decide +kernel
theorem dL_1382 : decode cL_law 1382 = .ok (.aload_n 2, 1) := by decide +kernel
theorem dL_1383 : decode cL_law 1383 = .ok (.invokevirtual 194, 3) := by decide +kernel
theorem dL_1386 : decode cL_law 1386 = .ok (.if_icmp .eq 246, 3) := by decide +kernel
theorem dL_1389 : decode cL_law 1389 = .ok (.iconst 0, 1) := by decide +kernel
theorem dL_1390 : decode cL_law 1390 = .ok (.ireturn, 1) := by decide +kernel
theorem dL_1391 : decode cL_law 1391 = .ok (.aload_n 1, 1) := by decide +kernel
theorem dL_1392 : decode cL_law 1392 = .ok (.invokevirtual 195, 3) := by decide +kernel
theorem dL_1395 : decode cL_law 1395 = .ok (.aload_n 2, 1) := by decide +kernel
theorem dL_1396 : decode cL_law 1396 = .ok (.invokevirtual 198, 3) := by decide +kernel
theorem dL_1399 : decode cL_law 1399 = .ok (.if_icmp .eq 233, 3) := by decide +kernel
theorem dL_1402 : decode cL_law 1402 = .ok (.iconst 0, 1) := by decide +kernel
theorem dL_1403 : decode cL_law 1403 = .ok (.ireturn, 1) := by decide +kernel
theorem dL_1404 : decode cL_law 1404 = .ok (.aload_n 1, 1) := by decide +kernel
theorem dL_1405 : decode cL_law 1405 = .ok (.invokevirtual 199, 3) := by decide +kernel
theorem dL_1408 : decode cL_law 1408 = .ok (.aload_n 2, 1) := by decide +kernel
theorem dL_1409 : decode cL_law 1409 = .ok (.invokevirtual 202, 3) := by decide +kernel
theorem dL_1412 : decode cL_law 1412 = .ok (.if_icmp .eq 220, 3) := by decide +kernel
theorem dL_1415 : decode cL_law 1415 = .ok (.iconst 0, 1) := by decide +kernel
theorem dL_1416 : decode cL_law 1416 = .ok (.ireturn, 1) := by decide +kernel
theorem dL_1417 : decode cL_law 1417 = .ok (.aload_n 1, 1) := by decide +kernel
theorem dL_1418 : decode cL_law 1418 = .ok (.aload_n 0, 1) := by decide +kernel
theorem dL_1419 : decode cL_law 1419 = .ok (.iload 4, 2) := by decide +kernel
theorem dL_1421 : decode cL_law 1421 = .ok (.iconst 1, 1) := by decide +kernel
theorem dL_1422 : decode cL_law 1422 = .ok (.iadd, 1) := by decide +kernel
theorem dL_1423 : decode cL_law 1423 = .ok (.iaload, 1) := by decide +kernel
theorem dL_1424 : decode cL_law 1424 = .ok (.invokevirtual 203, 3) := by decide +kernel
theorem dL_1427 : decode cL_law 1427 = .ok (.aload_n 2, 1) := by decide +kernel
theorem dL_1428 : decode cL_law 1428 = .ok (.aload_n 0, 1) := by decide +kernel
theorem dL_1429 : decode cL_law 1429 = .ok (.iload 4, 2) := by decide +kernel
theorem dL_1431 : decode cL_law 1431 = .ok (.iconst 1, 1) := by decide +kernel
theorem dL_1432 : decode cL_law 1432 = .ok (.iadd, 1) := by decide +kernel
theorem dL_1433 : decode cL_law 1433 = .ok (.iaload, 1) := by decide +kernel
theorem dL_1434 : decode cL_law 1434 = .ok (.invokevirtual 206, 3) := by decide +kernel
theorem dL_1437 : decode cL_law 1437 = .ok (.if_icmp .eq 195, 3) := by decide +kernel
theorem dL_1440 : decode cL_law 1440 = .ok (.iconst 0, 1) := by decide +kernel
theorem dL_1441 : decode cL_law 1441 = .ok (.ireturn, 1) := by decide +kernel
theorem dL_1442 : decode cL_law 1442 = .ok (.aload_n 1, 1) := by decide +kernel
theorem dL_1443 : decode cL_law 1443 = .ok (.aload_n 0, 1) := by decide +kernel
theorem dL_1444 : decode cL_law 1444 = .ok (.iload 4, 2) := by decide +kernel
theorem dL_1446 : decode cL_law 1446 = .ok (.iconst 1, 1) := by decide +kernel
theorem dL_1447 : decode cL_law 1447 = .ok (.iadd, 1) := by decide +kernel
theorem dL_1448 : decode cL_law 1448 = .ok (.iaload, 1) := by decide +kernel
theorem dL_1449 : decode cL_law 1449 = .ok (.aload_n 0, 1) := by decide +kernel
theorem dL_1450 : decode cL_law 1450 = .ok (.iload 4, 2) := by decide +kernel
theorem dL_1452 : decode cL_law 1452 = .ok (.iconst 2, 1) := by decide +kernel
theorem dL_1453 : decode cL_law 1453 = .ok (.iadd, 1) := by decide +kernel
theorem dL_1454 : decode cL_law 1454 = .ok (.iaload, 1) := by decide +kernel
theorem dL_1455 : decode cL_law 1455 = .ok (.aload_n 0, 1) := by decide +kernel
theorem dL_1456 : decode cL_law 1456 = .ok (.iload 4, 2) := by decide +kernel
theorem dL_1458 : decode cL_law 1458 = .ok (.iconst 3, 1) := by decide +kernel
theorem dL_1459 : decode cL_law 1459 = .ok (.iadd, 1) := by decide +kernel
theorem dL_1460 : decode cL_law 1460 = .ok (.iaload, 1) := by decide +kernel
theorem dL_1461 : decode cL_law 1461 = .ok (.aload_n 0, 1) := by decide +kernel
theorem dL_1462 : decode cL_law 1462 = .ok (.iload 4, 2) := by decide +kernel
theorem dL_1464 : decode cL_law 1464 = .ok (.iconst 4, 1) := by decide +kernel
theorem dL_1465 : decode cL_law 1465 = .ok (.iadd, 1) := by decide +kernel
theorem dL_1466 : decode cL_law 1466 = .ok (.iaload, 1) := by decide +kernel
theorem dL_1467 : decode cL_law 1467 = .ok (.invokevirtual 207, 3) := by decide +kernel
theorem dL_1470 : decode cL_law 1470 = .ok (.aload_n 2, 1) := by decide +kernel
theorem dL_1471 : decode cL_law 1471 = .ok (.aload_n 0, 1) := by decide +kernel
theorem dL_1472 : decode cL_law 1472 = .ok (.iload 4, 2) := by decide +kernel
theorem dL_1474 : decode cL_law 1474 = .ok (.iconst 1, 1) := by decide +kernel
theorem dL_1475 : decode cL_law 1475 = .ok (.iadd, 1) := by decide +kernel
theorem dL_1476 : decode cL_law 1476 = .ok (.iaload, 1) := by decide +kernel
theorem dL_1477 : decode cL_law 1477 = .ok (.aload_n 0, 1) := by decide +kernel
theorem dL_1478 : decode cL_law 1478 = .ok (.iload 4, 2) := by decide +kernel
theorem dL_1480 : decode cL_law 1480 = .ok (.iconst 2, 1) := by decide +kernel
theorem dL_1481 : decode cL_law 1481 = .ok (.iadd, 1) := by decide +kernel
theorem dL_1482 : decode cL_law 1482 = .ok (.iaload, 1) := by decide +kernel
theorem dL_1483 : decode cL_law 1483 = .ok (.aload_n 0, 1) := by decide +kernel
theorem dL_1484 : decode cL_law 1484 = .ok (.iload 4, 2) := by decide +kernel
theorem dL_1486 : decode cL_law 1486 = .ok (.iconst 3, 1) := by decide +kernel
theorem dL_1487 : decode cL_law 1487 = .ok (.iadd, 1) := by decide +kernel
theorem dL_1488 : decode cL_law 1488 = .ok (.iaload, 1) := by decide +kernel
theorem dL_1489 : decode cL_law 1489 = .ok (.aload_n 0, 1) := by decide +kernel
theorem dL_1490 : decode cL_law 1490 = .ok (.iload 4, 2) := by decide +kernel
theorem dL_1492 : decode cL_law 1492 = .ok (.iconst 4, 1) := by decide +kernel
theorem dL_1493 : decode cL_law 1493 = .ok (.iadd, 1) := by decide +kernel
theorem dL_1494 : decode cL_law 1494 = .ok (.iaload, 1) := by decide +kernel
theorem dL_1495 : decode cL_law 1495 = .ok (.invokevirtual 211, 3) := by decide +kernel
theorem dL_1498 : decode cL_law 1498 = .ok (.if_icmp .eq 134, 3) := by decide +kernel
theorem dL_1501 : decode cL_law 1501 = .ok (.iconst 0, 1) := by decide +kernel
theorem dL_1502 : decode cL_law 1502 = .ok (.ireturn, 1) := by decide +kernel
theorem dL_1503 : decode cL_law 1503 = .ok (.aload_n 1, 1) := by decide +kernel
theorem dL_1504 : decode cL_law 1504 = .ok (.aload_n 0, 1) := by decide +kernel
theorem dL_1505 : decode cL_law 1505 = .ok (.iload 4, 2) := by decide +kernel
theorem dL_1507 : decode cL_law 1507 = .ok (.iconst 1, 1) := by decide +kernel
theorem dL_1508 : decode cL_law 1508 = .ok (.iadd, 1) := by decide +kernel
theorem dL_1509 : decode cL_law 1509 = .ok (.iaload, 1) := by decide +kernel
theorem dL_1510 : decode cL_law 1510 = .ok (.aload_n 0, 1) := by decide +kernel
theorem dL_1511 : decode cL_law 1511 = .ok (.iload 4, 2) := by decide +kernel
theorem dL_1513 : decode cL_law 1513 = .ok (.iconst 2, 1) := by decide +kernel
theorem dL_1514 : decode cL_law 1514 = .ok (.iadd, 1) := by decide +kernel
theorem dL_1515 : decode cL_law 1515 = .ok (.iaload, 1) := by decide +kernel
theorem dL_1516 : decode cL_law 1516 = .ok (.ifCond .eq 7, 3) := by decide +kernel
theorem dL_1519 : decode cL_law 1519 = .ok (.iconst 1, 1) := by decide +kernel
theorem dL_1520 : decode cL_law 1520 = .ok (.goto 4, 3) := by decide +kernel
theorem dL_1523 : decode cL_law 1523 = .ok (.iconst 0, 1) := by decide +kernel
theorem dL_1524 : decode cL_law 1524 = .ok (.invokevirtual 212, 3) := by decide +kernel
theorem dL_1527 : decode cL_law 1527 = .ok (.aload_n 2, 1) := by decide +kernel
theorem dL_1528 : decode cL_law 1528 = .ok (.aload_n 0, 1) := by decide +kernel
theorem dL_1529 : decode cL_law 1529 = .ok (.iload 4, 2) := by decide +kernel
theorem dL_1531 : decode cL_law 1531 = .ok (.iconst 1, 1) := by decide +kernel
theorem dL_1532 : decode cL_law 1532 = .ok (.iadd, 1) := by decide +kernel
theorem dL_1533 : decode cL_law 1533 = .ok (.iaload, 1) := by decide +kernel
theorem dL_1534 : decode cL_law 1534 = .ok (.aload_n 0, 1) := by decide +kernel
theorem dL_1535 : decode cL_law 1535 = .ok (.iload 4, 2) := by decide +kernel
theorem dL_1537 : decode cL_law 1537 = .ok (.iconst 2, 1) := by decide +kernel
theorem dL_1538 : decode cL_law 1538 = .ok (.iadd, 1) := by decide +kernel
theorem dL_1539 : decode cL_law 1539 = .ok (.iaload, 1) := by decide +kernel
theorem dL_1540 : decode cL_law 1540 = .ok (.ifCond .eq 7, 3) := by decide +kernel
theorem dL_1543 : decode cL_law 1543 = .ok (.iconst 1, 1) := by decide +kernel
theorem dL_1544 : decode cL_law 1544 = .ok (.goto 4, 3) := by decide +kernel
theorem dL_1547 : decode cL_law 1547 = .ok (.iconst 0, 1) := by decide +kernel
theorem dL_1548 : decode cL_law 1548 = .ok (.invokevirtual 216, 3) := by decide +kernel
theorem dL_1551 : decode cL_law 1551 = .ok (.if_icmp .eq 81, 3) := by decide +kernel
theorem dL_1554 : decode cL_law 1554 = .ok (.iconst 0, 1) := by decide +kernel
theorem dL_1555 : decode cL_law 1555 = .ok (.ireturn, 1) := by decide +kernel
theorem dL_1556 : decode cL_law 1556 = .ok (.aload_n 1, 1) := by decide +kernel
theorem dL_1557 : decode cL_law 1557 = .ok (.invokevirtual 217, 3) := by decide +kernel
theorem dL_1560 : decode cL_law 1560 = .ok (.aload_n 2, 1) := by decide +kernel
theorem dL_1561 : decode cL_law 1561 = .ok (.invokevirtual 220, 3) := by decide +kernel
theorem dL_1564 : decode cL_law 1564 = .ok (.if_icmp .eq 68, 3) := by decide +kernel
theorem dL_1567 : decode cL_law 1567 = .ok (.iconst 0, 1) := by decide +kernel
theorem dL_1568 : decode cL_law 1568 = .ok (.ireturn, 1) := by decide +kernel
theorem dL_1569 : decode cL_law 1569 = .ok (.aload_n 1, 1) := by decide +kernel
theorem dL_1570 : decode cL_law 1570 = .ok (.invokevirtual 221, 3) := by decide +kernel
theorem dL_1573 : decode cL_law 1573 = .ok (.aload_n 2, 1) := by decide +kernel
theorem dL_1574 : decode cL_law 1574 = .ok (.invokevirtual 224, 3) := by decide +kernel
theorem dL_1577 : decode cL_law 1577 = .ok (.if_icmp .eq 55, 3) := by decide +kernel
theorem dL_1580 : decode cL_law 1580 = .ok (.iconst 0, 1) := by decide +kernel
theorem dL_1581 : decode cL_law 1581 = .ok (.ireturn, 1) := by decide +kernel
theorem dL_1582 : decode cL_law 1582 = .ok (.aload_n 1, 1) := by decide +kernel
theorem dL_1583 : decode cL_law 1583 = .ok (.aload_n 0, 1) := by decide +kernel
theorem dL_1584 : decode cL_law 1584 = .ok (.iload 4, 2) := by decide +kernel
theorem dL_1586 : decode cL_law 1586 = .ok (.iconst 1, 1) := by decide +kernel
theorem dL_1587 : decode cL_law 1587 = .ok (.iadd, 1) := by decide +kernel
theorem dL_1588 : decode cL_law 1588 = .ok (.iaload, 1) := by decide +kernel
theorem dL_1589 : decode cL_law 1589 = .ok (.invokevirtual 225, 3) := by decide +kernel
theorem dL_1592 : decode cL_law 1592 = .ok (.aload_n 2, 1) := by decide +kernel
theorem dL_1593 : decode cL_law 1593 = .ok (.aload_n 0, 1) := by decide +kernel
theorem dL_1594 : decode cL_law 1594 = .ok (.iload 4, 2) := by decide +kernel
theorem dL_1596 : decode cL_law 1596 = .ok (.iconst 1, 1) := by decide +kernel
theorem dL_1597 : decode cL_law 1597 = .ok (.iadd, 1) := by decide +kernel
theorem dL_1598 : decode cL_law 1598 = .ok (.iaload, 1) := by decide +kernel
theorem dL_1599 : decode cL_law 1599 = .ok (.invokevirtual 229, 3) := by decide +kernel
theorem dL_1602 : decode cL_law 1602 = .ok (.if_icmp .eq 30, 3) := by decide +kernel
theorem dL_1605 : decode cL_law 1605 = .ok (.iconst 0, 1) := by decide +kernel
theorem dL_1606 : decode cL_law 1606 = .ok (.ireturn, 1) := by decide +kernel
theorem dL_1607 : decode cL_law 1607 = .ok (.aload_n 1, 1) := by decide +kernel
theorem dL_1608 : decode cL_law 1608 = .ok (.aload_n 0, 1) := by decide +kernel
theorem dL_1609 : decode cL_law 1609 = .ok (.iload 4, 2) := by decide +kernel
theorem dL_1611 : decode cL_law 1611 = .ok (.iconst 1, 1) := by decide +kernel
theorem dL_1612 : decode cL_law 1612 = .ok (.iadd, 1) := by decide +kernel
theorem dL_1613 : decode cL_law 1613 = .ok (.iaload, 1) := by decide +kernel
theorem dL_1614 : decode cL_law 1614 = .ok (.invokevirtual 230, 3) := by decide +kernel
theorem dL_1617 : decode cL_law 1617 = .ok (.aload_n 2, 1) := by decide +kernel
theorem dL_1618 : decode cL_law 1618 = .ok (.aload_n 0, 1) := by decide +kernel
theorem dL_1619 : decode cL_law 1619 = .ok (.iload 4, 2) := by decide +kernel
theorem dL_1621 : decode cL_law 1621 = .ok (.iconst 1, 1) := by decide +kernel
theorem dL_1622 : decode cL_law 1622 = .ok (.iadd, 1) := by decide +kernel
theorem dL_1623 : decode cL_law 1623 = .ok (.iaload, 1) := by decide +kernel
theorem dL_1624 : decode cL_law 1624 = .ok (.invokevirtual 233, 3) := by decide +kernel
theorem dL_1627 : decode cL_law 1627 = .ok (.if_icmp .eq 5, 3) := by decide +kernel
theorem dL_1630 : decode cL_law 1630 = .ok (.iconst 0, 1) := by decide +kernel
theorem dL_1631 : decode cL_law 1631 = .ok (.ireturn, 1) := by decide +kernel
theorem dL_1632 : decode cL_law 1632 = .ok (.iinc 4 6, 3) := by decide +kernel
theorem dL_1635 : decode cL_law 1635 = .ok (.goto (-1612), 3) := by decide +kernel
theorem dL_1638 : decode cL_law 1638 = .ok (.iconst 1, 1) := by decide +kernel
theorem dL_1639 : decode cL_law 1639 = .ok (.ireturn, 1) := by decide +kernel
