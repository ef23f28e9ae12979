theorem d_Q_law_294 : decode code 294 = .ok (.aload_n 2, 1) := by decide +kernel
theorem d_Q_law_295 : decode code 295 = .ok (.invokevirtual 87, 3) := by decide +kernel
theorem d_Q_law_298 : decode code 298 = .ok (.if_icmp .eq 711, 3) := by decide +kernel
theorem d_Q_law_301 : decode code 301 = .ok (.iconst 0, 1) := by decide +kernel
theorem d_Q_law_302 : decode code 302 = .ok (.ireturn, 1) := by decide +kernel
theorem d_Q_law_303 : decode code 303 = .ok (.aload_n 1, 1) := by decide +kernel
theorem d_Q_law_304 : decode code 304 = .ok (.aload_n 0, 1) := by decide +kernel
theorem d_Q_law_305 : decode code 305 = .ok (.iload 4, 2) := by decide +kernel
theorem d_Q_law_307 : decode code 307 = .ok (.iconst 1, 1) := by decide +kernel
theorem d_Q_law_308 : decode code 308 = .ok (.iadd, 1) := by decide +kernel
theorem d_Q_law_309 : decode code 309 = .ok (.iaload, 1) := by decide +kernel
theorem d_Q_law_310 : decode code 310 = .ok (.aload_n 0, 1) := by decide +kernel
theorem d_Q_law_311 : decode code 311 = .ok (.iload 4, 2) := by decide +kernel
theorem d_Q_law_313 : decode code 313 = .ok (.iconst 2, 1) := by decide +kernel
theorem d_Q_law_314 : decode code 314 = .ok (.iadd, 1) := by decide +kernel
theorem d_Q_law_315 : decode code 315 = .ok (.iaload, 1) := by decide +kernel
theorem d_Q_law_316 : decode code 316 = .ok (.aload_n 3, 1) := by decide +kernel
theorem d_Q_law_317 : decode code 317 = .ok (.invokestatic 88, 3) := by decide +kernel
theorem d_Q_law_320 : decode code 320 = .ok (.istore 5, 2) := by decide +kernel
theorem d_Q_law_322 : decode code 322 = .ok (.aload_n 2, 1) := by decide +kernel
theorem d_Q_law_323 : decode code 323 = .ok (.aload_n 0, 1) := by decide +kernel
theorem d_Q_law_324 : decode code 324 = .ok (.iload 4, 2) := by decide +kernel
theorem d_Q_law_326 : decode code 326 = .ok (.iconst 1, 1) := by decide +kernel
theorem d_Q_law_327 : decode code 327 = .ok (.iadd, 1) := by decide +kernel
theorem d_Q_law_328 : decode code 328 = .ok (.iaload, 1) := by decide +kernel
theorem d_Q_law_329 : decode code 329 = .ok (.aload_n 0, 1) := by decide +kernel
theorem d_Q_law_330 : decode code 330 = .ok (.iload 4, 2) := by decide +kernel
theorem d_Q_law_332 : decode code 332 = .ok (.iconst 2, 1) := by decide +kernel
theorem d_Q_law_333 : decode code 333 = .ok (.iadd, 1) := by decide +kernel
theorem d_Q_law_334 : decode code 334 = .ok (.iaload, 1) := by decide +kernel
theorem d_Q_law_335 : decode code 335 = .ok (.invokevirtual 91, 3) := by decide +kernel
theorem d_Q_law_338 : decode code 338 = .ok (.istore 6, 2) := by decide +kernel
theorem d_Q_law_340 : decode code 340 = .ok (.aload_n 2, 1) := by decide +kernel
theorem d_Q_law_341 : decode code 341 = .ok (.invokevirtual 72, 3) := by decide +kernel
theorem d_Q_law_344 : decode code 344 = .ok (.iload 5, 2) := by decide +kernel
theorem d_Q_law_346 : decode code 346 = .ok (.if_icmp .eq 5, 3) := by decide +kernel
theorem d_Q_law_349 : decode code 349 = .ok (.iconst 0, 1) := by decide +kernel
theorem d_Q_law_350 : decode code 350 = .ok (.ireturn, 1) := by decide +kernel
theorem d_Q_law_351 : decode code 351 = .ok (.iload 5, 2) := by decide +kernel
theorem d_Q_law_353 : decode code 353 = .ok (.ifCond .ne 15, 3) := by decide +kernel
theorem d_Q_law_356 : decode code 356 = .ok (.aload_n 3, 1) := by decide +kernel
theorem d_Q_law_357 : decode code 357 = .ok (.iconst 0, 1) := by decide +kernel
theorem d_Q_law_358 : decode code 358 = .ok (.laload, 1) := by decide +kernel
theorem d_Q_law_359 : decode code 359 = .ok (.iload 6, 2) := by decide +kernel
theorem d_Q_law_361 : decode code 361 = .ok (.i2l, 1) := by decide +kernel
theorem d_Q_law_362 : decode code 362 = .ok (.lcmp, 1) := by decide +kernel
theorem d_Q_law_363 : decode code 363 = .ok (.ifCond .eq 5, 3) := by decide +kernel
theorem d_Q_law_366 : decode code 366 = .ok (.iconst 0, 1) := by decide +kernel
theorem d_Q_law_367 : decode code 367 = .ok (.ireturn, 1) := by decide +kernel
theorem d_Q_law_368 : decode code 368 = .ok (.goto 641, 3) := by decide +kernel
theorem d_Q_law_371 : decode code 371 = .ok (.aload_n 1, 1) := by decide +kernel
theorem d_Q_law_372 : decode code 372 = .ok (.aload_n 0, 1) := by decide +kernel
theorem d_Q_law_373 : decode code 373 = .ok (.iload 4, 2) := by decide +kernel
theorem d_Q_law_375 : decode code 375 = .ok (.iconst 1, 1) := by decide +kernel
theorem d_Q_law_376 : decode code 376 = .ok (.iadd, 1) := by decide +kernel
theorem d_Q_law_377 : decode code 377 = .ok (.iaload, 1) := by decide +kernel
theorem d_Q_law_378 : decode code 378 = .ok (.aload_n 3, 1) := by decide +kernel
theorem d_Q_law_379 : decode code 379 = .ok (.invokestatic 92, 3) := by decide +kernel
theorem d_Q_law_382 : decode code 382 = .ok (.istore 5, 2) := by decide +kernel
theorem d_Q_law_384 : decode code 384 = .ok (.aload_n 2, 1) := by decide +kernel
theorem d_Q_law_385 : decode code 385 = .ok (.aload_n 0, 1) := by decide +kernel
theorem d_Q_law_386 : decode code 386 = .ok (.iload 4, 2) := by decide +kernel
theorem d_Q_law_388 : decode code 388 = .ok (.iconst 1, 1) := by decide +kernel
theorem d_Q_law_389 : decode code 389 = .ok (.iadd, 1) := by decide +kernel
theorem d_Q_law_390 : decode code 390 = .ok (.iaload, 1) := by decide +kernel
theorem d_Q_law_391 : decode code 391 = .ok (.invokevirtual 95, 3) := by decide +kernel
theorem d_Q_law_394 : decode code 394 = .ok (.istore 6, 2) := by decide +kernel
theorem d_Q_law_396 : decode code 396 = .ok (.aload_n 2, 1) := by decide +kernel
theorem d_Q_law_397 : decode code 397 = .ok (.invokevirtual 72, 3) := by decide +kernel
theorem d_Q_law_400 : decode code 400 = .ok (.iload 5, 2) := by decide +kernel
theorem d_Q_law_402 : decode code 402 = .ok (.if_icmp .eq 5, 3) := by decide +kernel
theorem d_Q_law_405 : decode code 405 = .ok (.iconst 0, 1) := by decide +kernel
theorem d_Q_law_406 : decode code 406 = .ok (.ireturn, 1) := by decide +kernel
theorem d_Q_law_407 : decode code 407 = .ok (.iload 5, 2) := by decide +kernel
theorem d_Q_law_409 : decode code 409 = .ok (.ifCond .ne 15, 3) := by decide +kernel
theorem d_Q_law_412 : decode code 412 = .ok (.aload_n 3, 1) := by decide +kernel
theorem d_Q_law_413 : decode code 413 = .ok (.iconst 0, 1) := by decide +kernel
theorem d_Q_law_414 : decode code 414 = .ok (.laload, 1) := by decide +kernel
theorem d_Q_law_415 : decode code 415 = .ok (.iload 6, 2) := by decide +kernel
theorem d_Q_law_417 : decode code 417 = .ok (.i2l, 1) := by decide +kernel
theorem d_Q_law_418 : decode code 418 = .ok (.lcmp, 1) := by decide +kernel
theorem d_Q_law_419 : decode code 419 = .ok (.ifCond .eq 5, 3) := by decide +kernel
theorem d_Q_law_422 : decode code 422 = .ok (.iconst 0, 1) := by decide +kernel
theorem d_Q_law_423 : decode code 423 = .ok (.ireturn, 1) := by decide +kernel
theorem d_Q_law_424 : decode code 424 = .ok (.goto 585, 3) := by decide +kernel
theorem d_Q_law_427 : decode code 427 = .ok (.aload_n 1, 1) := by decide +kernel
theorem d_Q_law_428 : decode code 428 = .ok (.aload_n 0, 1) := by decide +kernel
theorem d_Q_law_429 : decode code 429 = .ok (.iload 4, 2) := by decide +kernel
theorem d_Q_law_431 : decode code 431 = .ok (.iconst 1, 1) := by decide +kernel
theorem d_Q_law_432 : decode code 432 = .ok (.iadd, 1) := by decide +kernel
theorem d_Q_law_433 : decode code 433 = .ok (.iaload, 1) := by decide +kernel
theorem d_Q_law_434 : decode code 434 = .ok (.aload_n 3, 1) := by decide +kernel
theorem d_Q_law_435 : decode code 435 = .ok (.invokestatic 96, 3) := by decide +kernel
theorem d_Q_law_438 : decode code 438 = .ok (.istore 5, 2) := by decide +kernel
theorem d_Q_law_440 : decode code 440 = .ok (.aload_n 2, 1) := by decide +kernel
theorem d_Q_law_441 : decode code 441 = .ok (.aload_n 0, 1) := by decide +kernel
theorem d_Q_law_442 : decode code 442 = .ok (.iload 4, 2) := by decide +kernel
theorem d_Q_law_444 : decode code 444 = .ok (.iconst 1, 1) := by decide +kernel
theorem d_Q_law_445 : decode code 445 = .ok (.iadd, 1) := by decide +kernel
theorem d_Q_law_446 : decode code 446 = .ok (.iaload, 1) := by decide +kernel
theorem d_Q_law_447 : decode code 447 = .ok (.invokevirtual 98, 3) := by decide +kernel
theorem d_Q_law_450 : decode code 450 = .ok (.lstore 6, 2) := by decide +kernel
theorem d_Q_law_452 : decode code 452 = .ok (.aload_n 2, 1) := by decide +kernel
theorem d_Q_law_453 : decode code 453 = .ok (.invokevirtual 72, 3) := by decide +kernel
theorem d_Q_law_456 : decode code 456 = .ok (.iload 5, 2) := by decide +kernel
theorem d_Q_law_458 : decode code 458 = .ok (.if_icmp .eq 5, 3) := by decide +kernel
theorem d_Q_law_461 : decode code 461 = .ok (.iconst 0, 1) := by decide +kernel
theorem d_Q_law_462 : decode code 462 = .ok (.ireturn, 1) := by decide +kernel
theorem d_Q_law_463 : decode code 463 = .ok (.iload 5, 2) := by decide +kernel
theorem d_Q_law_465 : decode code 465 = .ok (.ifCond .ne 14, 3) := by decide +kernel
theorem d_Q_law_468 : decode code 468 = .ok (.aload_n 3, 1) := by decide +kernel
theorem d_Q_law_469 : decode code 469 = .ok (.iconst 0, 1) := by decide +kernel
theorem d_Q_law_470 : decode code 470 = .ok (.laload, 1) := by decide +kernel
theorem d_Q_law_471 : decode code 471 = .ok (.lload 6, 2) := by decide +kernel
theorem d_Q_law_473 : decode code 473 = .ok (.lcmp, 1) := by decide +kernel
theorem d_Q_law_474 : decode code 474 = .ok (.ifCond .eq 5, 3) := by decide +kernel
theorem d_Q_law_477 : decode code 477 = .ok (.iconst 0, 1) := by decide +kernel
theorem d_Q_law_478 : decode code 478 = .ok (.ireturn, 1) := by decide +kernel
theorem d_Q_law_479 : decode code 479 = .ok (.goto 530, 3) := by decide +kernel
theorem d_Q_law_482 : decode code 482 = .ok (.aload_n 1, 1) := by decide +kernel
theorem d_Q_law_483 : decode code 483 = .ok (.aload_n 0, 1) := by decide +kernel
theorem d_Q_law_484 : decode code 484 = .ok (.iload 4, 2) := by decide +kernel
theorem d_Q_law_486 : decode code 486 = .ok (.iconst 1, 1) := by decide +kernel
theorem d_Q_law_487 : decode code 487 = .ok (.iadd, 1) := by decide +kernel
theorem d_Q_law_488 : decode code 488 = .ok (.iaload, 1) := by decide +kernel
theorem d_Q_law_489 : decode code 489 = .ok (.aload_n 3, 1) := by decide +kernel
theorem d_Q_law_490 : decode code 490 = .ok (.invokestatic 99, 3) := by decide +kernel
theorem d_Q_law_493 : decode code 493 = .ok (.istore 5, 2) := by decide +kernel
theorem d_Q_law_495 : decode code 495 = .ok (.aload_n 2, 1) := by decide +kernel
theorem d_Q_law_496 : decode code 496 = .ok (.aload_n 0, 1) := by decide +kernel
theorem d_Q_law_497 : decode code 497 = .ok (.iload 4, 2) := by decide +kernel
theorem d_Q_law_499 : decode code 499 = .ok (.iconst 1, 1) := by decide +kernel
theorem d_Q_law_500 : decode code 500 = .ok (.iadd, 1) := by decide +kernel
theorem d_Q_law_501 : decode code 501 = .ok (.iaload, 1) := by decide +kernel
theorem d_Q_law_502 : decode code 502 = .ok (.invokevirtual 101, 3) := by decide +kernel
theorem d_Q_law_505 : decode code 505 = .ok (.istore 6, 2) := by decide +kernel
theorem d_Q_law_507 : decode code 507 = .ok (.aload_n 2, 1) := by decide +kernel
theorem d_Q_law_508 : decode code 508 = .ok (.invokevirtual 72, 3) := by decide +kernel
theorem d_Q_law_511 : decode code 511 = .ok (.iload 5, 2) := by decide +kernel
theorem d_Q_law_513 : decode code 513 = .ok (.if_icmp .eq 5, 3) := by decide +kernel
