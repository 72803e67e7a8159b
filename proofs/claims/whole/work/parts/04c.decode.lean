theorem dX11_init_223 : decode cX11_init 223 = .ok (.bipush 10, 2) := by decide +kernel
theorem dX11_init_225 : decode cX11_init 225 = .ok (.iastore, 1) := by decide +kernel
theorem dX11_init_226 : decode cX11_init 226 = .ok (.dup, 1) := by decide +kernel
theorem dX11_init_227 : decode cX11_init 227 = .ok (.iconst 2, 1) := by decide +kernel
theorem dX11_init_228 : decode cX11_init 228 = .ok (.bipush 10, 2) := by decide +kernel
theorem dX11_init_230 : decode cX11_init 230 = .ok (.iastore, 1) := by decide +kernel
theorem dX11_init_231 : decode cX11_init 231 = .ok (.dup, 1) := by decide +kernel
theorem dX11_init_232 : decode cX11_init 232 = .ok (.iconst 3, 1) := by decide +kernel
theorem dX11_init_233 : decode cX11_init 233 = .ok (.bipush 10, 2) := by decide +kernel
theorem dX11_init_235 : decode cX11_init 235 = .ok (.iastore, 1) := by decide +kernel
theorem dX11_init_236 : decode cX11_init 236 = .ok (.dup, 1) := by decide +kernel
theorem dX11_init_237 : decode cX11_init 237 = .ok (.iconst 4, 1) := by decide +kernel
theorem dX11_init_238 : decode cX11_init 238 = .ok (.bipush 10, 2) := by decide +kernel
theorem dX11_init_240 : decode cX11_init 240 = .ok (.iastore, 1) := by decide +kernel
theorem dX11_init_241 : decode cX11_init 241 = .ok (.dup, 1) := by decide +kernel
theorem dX11_init_242 : decode cX11_init 242 = .ok (.iconst 5, 1) := by decide +kernel
theorem dX11_init_243 : decode cX11_init 243 = .ok (.bipush 10, 2) := by decide +kernel
theorem dX11_init_245 : decode cX11_init 245 = .ok (.iastore, 1) := by decide +kernel
theorem dX11_init_246 : decode cX11_init 246 = .ok (.putfield 62, 3) := by decide +kernel
theorem dX11_init_249 : decode cX11_init 249 = .ok (.aload_n 0, 1) := by decide +kernel
theorem dX11_init_250 : decode cX11_init 250 = .ok (.iconst 3, 1) := by decide +kernel
theorem dX11_init_251 : decode cX11_init 251 = .ok (.newarray .int, 2) := by decide +kernel
theorem dX11_init_253 : decode cX11_init 253 = .ok (.putfield 65, 3) := by decide +kernel
theorem dX11_init_256 : decode cX11_init 256 = .ok (.aload_n 0, 1) := by decide +kernel
theorem dX11_init_257 : decode cX11_init 257 = .ok (.iconst 3, 1) := by decide +kernel
theorem dX11_init_258 : decode cX11_init 258 = .ok (.newarray .int, 2) := by decide +kernel
theorem dX11_init_260 : decode cX11_init 260 = .ok (.putfield 68, 3) := by decide +kernel
theorem dX11_init_263 : decode cX11_init 263 = .ok (.aload_n 0, 1) := by decide +kernel
theorem dX11_init_264 : decode cX11_init 264 = .ok (.iconst 3, 1) := by decide +kernel
theorem dX11_init_265 : decode cX11_init 265 = .ok (.newarray .int, 2) := by decide +kernel
theorem dX11_init_267 : decode cX11_init 267 = .ok (.putfield 71, 3) := by decide +kernel
theorem dX11_init_270 : decode cX11_init 270 = .ok (.aload_n 0, 1) := by decide +kernel
theorem dX11_init_271 : decode cX11_init 271 = .ok (.iconst 3, 1) := by decide +kernel
theorem dX11_init_272 : decode cX11_init 272 = .ok (.newarray .int, 2) := by decide +kernel
theorem dX11_init_274 : decode cX11_init 274 = .ok (.putfield 74, 3) := by decide +kernel
theorem dX11_init_277 : decode cX11_init 277 = .ok (.aload_n 0, 1) := by decide +kernel
theorem dX11_init_278 : decode cX11_init 278 = .ok (.iconst 3, 1) := by decide +kernel
theorem dX11_init_279 : decode cX11_init 279 = .ok (.newarray .int, 2) := by decide +kernel
theorem dX11_init_281 : decode cX11_init 281 = .ok (.putfield 77, 3) := by decide +kernel
theorem dX11_init_284 : decode cX11_init 284 = .ok (.aload_n 0, 1) := by decide +kernel
theorem dX11_init_285 : decode cX11_init 285 = .ok (.iconst 4, 1) := by decide +kernel
theorem dX11_init_286 : decode cX11_init 286 = .ok (.newarray .int, 2) := by decide +kernel
theorem dX11_init_288 : decode cX11_init 288 = .ok (.putfield 80, 3) := by decide +kernel
theorem dX11_init_291 : decode cX11_init 291 = .ok (.aload_n 0, 1) := by decide +kernel
theorem dX11_init_292 : decode cX11_init 292 = .ok (.iconst 4, 1) := by decide +kernel
theorem dX11_init_293 : decode cX11_init 293 = .ok (.newarray .int, 2) := by decide +kernel
theorem dX11_init_295 : decode cX11_init 295 = .ok (.putfield 83, 3) := by decide +kernel
theorem dX11_init_298 : decode cX11_init 298 = .ok (.aload_n 0, 1) := by decide +kernel
theorem dX11_init_299 : decode cX11_init 299 = .ok (.iconst 4, 1) := by decide +kernel
theorem dX11_init_300 : decode cX11_init 300 = .ok (.newarray .int, 2) := by decide +kernel
theorem dX11_init_302 : decode cX11_init 302 = .ok (.putfield 86, 3) := by decide +kernel
theorem dX11_init_305 : decode cX11_init 305 = .ok (.aload_n 0, 1) := by decide +kernel
theorem dX11_init_306 : decode cX11_init 306 = .ok (.iconst 4, 1) := by decide +kernel
theorem dX11_init_307 : decode cX11_init 307 = .ok (.newarray .int, 2) := by decide +kernel
theorem dX11_init_309 : decode cX11_init 309 = .ok (.putfield 89, 3) := by decide +kernel
theorem dX11_init_312 : decode cX11_init 312 = .ok (.aload_n 0, 1) := by decide +kernel
theorem dX11_init_313 : decode cX11_init 313 = .ok (.iconst 3, 1) := by decide +kernel
theorem dX11_init_314 : decode cX11_init 314 = .ok (.newarray .int, 2) := by decide +kernel
theorem dX11_init_316 : decode cX11_init 316 = .ok (.putfield 92, 3) := by decide +kernel
theorem dX11_init_319 : decode cX11_init 319 = .ok (.aload_n 0, 1) := by decide +kernel
theorem dX11_init_320 : decode cX11_init 320 = .ok (.iconst 3, 1) := by decide +kernel
theorem dX11_init_321 : decode cX11_init 321 = .ok (.newarray .int, 2) := by decide +kernel
theorem dX11_init_323 : decode cX11_init 323 = .ok (.putfield 95, 3) := by decide +kernel
theorem dX11_init_326 : decode cX11_init 326 = .ok (.aload_n 0, 1) := by decide +kernel
theorem dX11_init_327 : decode cX11_init 327 = .ok (.bipush 40, 2) := by decide +kernel
theorem dX11_init_329 : decode cX11_init 329 = .ok (.putfield 98, 3) := by decide +kernel
theorem dX11_init_332 : decode cX11_init 332 = .ok (.aload_n 0, 1) := by decide +kernel
theorem dX11_init_333 : decode cX11_init 333 = .ok (.bipush 6, 2) := by decide +kernel
theorem dX11_init_335 : decode cX11_init 335 = .ok (.newarray .int, 2) := by decide +kernel
theorem dX11_init_337 : decode cX11_init 337 = .ok (.putfield 102, 3) := by decide +kernel
theorem dX11_init_340 : decode cX11_init 340 = .ok (.aload_n 0, 1) := by decide +kernel
theorem dX11_init_341 : decode cX11_init 341 = .ok (.bipush 6, 2) := by decide +kernel
theorem dX11_init_343 : decode cX11_init 343 = .ok (.newarray .int, 2) := by decide +kernel
theorem dX11_init_345 : decode cX11_init 345 = .ok (.putfield 105, 3) := by decide +kernel
theorem dX11_init_348 : decode cX11_init 348 = .ok (.aload_n 0, 1) := by decide +kernel
theorem dX11_init_349 : decode cX11_init 349 = .ok (.bipush 6, 2) := by decide +kernel
theorem dX11_init_351 : decode cX11_init 351 = .ok (.newarray .int, 2) := by decide +kernel
theorem dX11_init_353 : decode cX11_init 353 = .ok (.putfield 108, 3) := by decide +kernel
theorem dX11_init_356 : decode cX11_init 356 = .ok (.aload_n 0, 1) := by decide +kernel
theorem dX11_init_357 : decode cX11_init 357 = .ok (.bipush 6, 2) := by decide +kernel
theorem dX11_init_359 : decode cX11_init 359 = .ok (.newarray .int, 2) := by decide +kernel
theorem dX11_init_361 : decode cX11_init 361 = .ok (.putfield 111, 3) := by decide +kernel
theorem dX11_init_364 : decode cX11_init 364 = .ok (.aload_n 0, 1) := by decide +kernel
theorem dX11_init_365 : decode cX11_init 365 = .ok (.bipush 6, 2) := by decide +kernel
theorem dX11_init_367 : decode cX11_init 367 = .ok (.newarray .int, 2) := by decide +kernel
theorem dX11_init_369 : decode cX11_init 369 = .ok (.putfield 114, 3) := by decide +kernel
theorem dX11_init_372 : decode cX11_init 372 = .ok (.aload_n 0, 1) := by decide +kernel
theorem dX11_init_373 : decode cX11_init 373 = .ok (.bipush 6, 2) := by decide +kernel
theorem dX11_init_375 : decode cX11_init 375 = .ok (.newarray .int, 2) := by decide +kernel
theorem dX11_init_377 : decode cX11_init 377 = .ok (.putfield 117, 3) := by decide +kernel
theorem dX11_init_380 : decode cX11_init 380 = .ok (.aload_n 0, 1) := by decide +kernel
theorem dX11_init_381 : decode cX11_init 381 = .ok (.bipush 72, 2) := by decide +kernel
theorem dX11_init_383 : decode cX11_init 383 = .ok (.newarray .int, 2) := by decide +kernel
theorem dX11_init_385 : decode cX11_init 385 = .ok (.putfield 120, 3) := by decide +kernel
theorem dX11_init_388 : decode cX11_init 388 = .ok (.aload_n 0, 1) := by decide +kernel
theorem dX11_init_389 : decode cX11_init 389 = .ok (.sipush 288, 3) := by decide +kernel
theorem dX11_init_392 : decode cX11_init 392 = .ok (.newarray .int, 2) := by decide +kernel
theorem dX11_init_394 : decode cX11_init 394 = .ok (.putfield 123, 3) := by decide +kernel
theorem dX11_init_397 : decode cX11_init 397 = .ok (.aload_n 0, 1) := by decide +kernel
theorem dX11_init_398 : decode cX11_init 398 = .ok (.bipush 6, 2) := by decide +kernel
theorem dX11_init_400 : decode cX11_init 400 = .ok (.newarray .int, 2) := by decide +kernel
theorem dX11_init_402 : decode cX11_init 402 = .ok (.putfield 126, 3) := by decide +kernel
theorem dX11_init_405 : decode cX11_init 405 = .ok (.aload_n 0, 1) := by decide +kernel
theorem dX11_init_406 : decode cX11_init 406 = .ok (.bipush 24, 2) := by decide +kernel
theorem dX11_init_408 : decode cX11_init 408 = .ok (.newarray .int, 2) := by decide +kernel
theorem dX11_init_410 : decode cX11_init 410 = .ok (.putfield 129, 3) := by decide +kernel
theorem dX11_init_413 : decode cX11_init 413 = .ok (.aload_n 0, 1) := by decide +kernel
theorem dX11_init_414 : decode cX11_init 414 = .ok (.bipush 24, 2) := by decide +kernel
theorem dX11_init_416 : decode cX11_init 416 = .ok (.newarray .int, 2) := by decide +kernel
theorem dX11_init_418 : decode cX11_init 418 = .ok (.putfield 132, 3) := by decide +kernel
theorem dX11_init_421 : decode cX11_init 421 = .ok (.aload_n 0, 1) := by decide +kernel
theorem dX11_init_422 : decode cX11_init 422 = .ok (.bipush 24, 2) := by decide +kernel
theorem dX11_init_424 : decode cX11_init 424 = .ok (.newarray .int, 2) := by decide +kernel
theorem dX11_init_426 : decode cX11_init 426 = .ok (.putfield 135, 3) := by decide +kernel
theorem dX11_init_429 : decode cX11_init 429 = .ok (.aload_n 0, 1) := by decide +kernel
theorem dX11_init_430 : decode cX11_init 430 = .ok (.iconst 3, 1) := by decide +kernel
theorem dX11_init_431 : decode cX11_init 431 = .ok (.newarray .boolean, 2) := by decide +kernel
theorem dX11_init_433 : decode cX11_init 433 = .ok (.putfield 138, 3) := by decide +kernel
theorem dX11_init_436 : decode cX11_init 436 = .ok (.aload_n 0, 1) := by decide +kernel
theorem dX11_init_437 : decode cX11_init 437 = .ok (.iconst 3, 1) := by decide +kernel
theorem dX11_init_438 : decode cX11_init 438 = .ok (.newarray .int, 2) := by decide +kernel
theorem dX11_init_440 : decode cX11_init 440 = .ok (.putfield 141, 3) := by decide +kernel
theorem dX11_init_443 : decode cX11_init 443 = .ok (.aload_n 0, 1) := by decide +kernel
theorem dX11_init_444 : decode cX11_init 444 = .ok (.bipush 36, 2) := by decide +kernel
theorem dX11_init_446 : decode cX11_init 446 = .ok (.newarray .int, 2) := by decide +kernel
theorem dX11_init_448 : decode cX11_init 448 = .ok (.putfield 144, 3) := by decide +kernel
theorem dX11_init_451 : decode cX11_init 451 = .ok (.aload_n 0, 1) := by decide +kernel
theorem dX11_init_452 : decode cX11_init 452 = .ok (.sipush 144, 3) := by decide +kernel
theorem dX11_init_455 : decode cX11_init 455 = .ok (.newarray .int, 2) := by decide +kernel
theorem dX11_init_457 : decode cX11_init 457 = .ok (.putfield 147, 3) := by decide +kernel
theorem dX11_init_460 : decode cX11_init 460 = .ok (.aload_n 0, 1) := by decide +kernel
theorem dX11_init_461 : decode cX11_init 461 = .ok (.iconst 3, 1) := by decide +kernel
theorem dX11_init_462 : decode cX11_init 462 = .ok (.newarray .int, 2) := by decide +kernel
theorem dX11_init_464 : decode cX11_init 464 = .ok (.putfield 150, 3) := by decide +kernel
theorem dX11_init_467 : decode cX11_init 467 = .ok (.aload_n 0, 1) := by decide +kernel
theorem dX11_init_468 : decode cX11_init 468 = .ok (.iconst 3, 1) := by decide +kernel
theorem dX11_init_469 : decode cX11_init 469 = .ok (.newarray .int, 2) := by decide +kernel
theorem dX11_init_471 : decode cX11_init 471 = .ok (.putfield 153, 3) := by decide +kernel
theorem dX11_init_474 : decode cX11_init 474 = .ok (.aload_n 0, 1) := by decide +kernel
theorem dX11_init_475 : decode cX11_init 475 = .ok (.bipush 12, 2) := by decide +kernel
theorem dX11_init_477 : decode cX11_init 477 = .ok (.newarray .int, 2) := by decide +kernel
theorem dX11_init_479 : decode cX11_init 479 = .ok (.putfield 156, 3) := by decide +kernel
theorem dX11_init_482 : decode cX11_init 482 = .ok (.aload_n 0, 1) := by decide +kernel
theorem dX11_init_483 : decode cX11_init 483 = .ok (.iconst 3, 1) := by decide +kernel
theorem dX11_init_484 : decode cX11_init 484 = .ok (.newarray .int, 2) := by decide +kernel
theorem dX11_init_486 : decode cX11_init 486 = .ok (.putfield 159, 3) := by decide +kernel
theorem dX11_init_489 : decode cX11_init 489 = .ok (.aload_n 0, 1) := by decide +kernel
theorem dX11_init_490 : decode cX11_init 490 = .ok (.sipush 144, 3) := by decide +kernel
theorem dX11_init_493 : decode cX11_init 493 = .ok (.newarray .int, 2) := by decide +kernel
theorem dX11_init_495 : decode cX11_init 495 = .ok (.putfield 162, 3) := by decide +kernel
theorem dX11_init_498 : decode cX11_init 498 = .ok (.aload_n 0, 1) := by decide +kernel
theorem dX11_init_499 : decode cX11_init 499 = .ok (.iconst 3, 1) := by decide +kernel
theorem dX11_init_500 : decode cX11_init 500 = .ok (.newarray .int, 2) := by decide +kernel
theorem dX11_init_502 : decode cX11_init 502 = .ok (.putfield 165, 3) := by decide +kernel
theorem dX11_init_505 : decode cX11_init 505 = .ok (.aload_n 0, 1) := by decide +kernel
theorem dX11_init_506 : decode cX11_init 506 = .ok (.bipush 120, 2) := by decide +kernel
theorem dX11_init_508 : decode cX11_init 508 = .ok (.newarray .int, 2) := by decide +kernel
theorem dX11_init_510 : decode cX11_init 510 = .ok (.putfield 168, 3) := by decide +kernel
theorem dX11_init_513 : decode cX11_init 513 = .ok (.aload_n 0, 1) := by decide +kernel
theorem dX11_init_514 : decode cX11_init 514 = .ok (.bipush 12, 2) := by decide +kernel
theorem dX11_init_516 : decode cX11_init 516 = .ok (.newarray .int, 2) := by decide +kernel
theorem dX11_init_518 : decode cX11_init 518 = .ok (.putfield 171, 3) := by decide +kernel
theorem dX11_init_521 : decode cX11_init 521 = .ok (.aload_n 0, 1) := by decide +kernel
theorem dX11_init_522 : decode cX11_init 522 = .ok (.bipush 12, 2) := by decide +kernel
theorem dX11_init_524 : decode cX11_init 524 = .ok (.newarray .int, 2) := by decide +kernel
theorem dX11_init_526 : decode cX11_init 526 = .ok (.putfield 174, 3) := by decide +kernel
theorem dX11_init_529 : decode cX11_init 529 = .ok (.aload_n 0, 1) := by decide +kernel
theorem dX11_init_530 : decode cX11_init 530 = .ok (.bipush 12, 2) := by decide +kernel
theorem dX11_init_532 : decode cX11_init 532 = .ok (.newarray .int, 2) := by decide +kernel
theorem dX11_init_534 : decode cX11_init 534 = .ok (.putfield 177, 3) := by decide +kernel
theorem dX11_init_537 : decode cX11_init 537 = .ok (.aload_n 0, 1) := by decide +kernel
theorem dX11_init_538 : decode cX11_init 538 = .ok (.bipush 120, 2) := by decide +kernel
theorem dX11_init_540 : decode cX11_init 540 = .ok (.newarray .int, 2) := by decide +kernel
theorem dX11_init_542 : decode cX11_init 542 = .ok (.putfield 180, 3) := by decide +kernel
theorem dX11_init_545 : decode cX11_init 545 = .ok (.aload_n 0, 1) := by decide +kernel
theorem dX11_init_546 : decode cX11_init 546 = .ok (.iconst (-1), 1) := by decide +kernel
theorem dX11_init_547 : decode cX11_init 547 = .ok (.putfield 183, 3) := by decide +kernel
theorem dX11_init_550 : decode cX11_init 550 = .ok (.aload_n 0, 1) := by decide +kernel
theorem dX11_init_551 : decode cX11_init 551 = .ok (.iconst 3, 1) := by decide +kernel
theorem dX11_init_552 : decode cX11_init 552 = .ok (.newarray .int, 2) := by decide +kernel
theorem dX11_init_554 : decode cX11_init 554 = .ok (.putfield 186, 3) := by decide +kernel
theorem dX11_init_557 : decode cX11_init 557 = .ok (.aload_n 0, 1) := by decide +kernel
theorem dX11_init_558 : decode cX11_init 558 = .ok (.iconst 4, 1) := by decide +kernel
theorem dX11_init_559 : decode cX11_init 559 = .ok (.newarray .int, 2) := by decide +kernel
theorem dX11_init_561 : decode cX11_init 561 = .ok (.putfield 189, 3) := by decide +kernel
theorem dX11_init_564 : decode cX11_init 564 = .ok (.aload_n 0, 1) := by decide +kernel
theorem dX11_init_565 : decode cX11_init 565 = .ok (.iconst 4, 1) := by decide +kernel
theorem dX11_init_566 : decode cX11_init 566 = .ok (.newarray .int, 2) := by decide +kernel
theorem dX11_init_568 : decode cX11_init 568 = .ok (.putfield 192, 3) := by decide +kernel
theorem dX11_init_571 : decode cX11_init 571 = .ok (.aload_n 0, 1) := by decide +kernel
theorem dX11_init_572 : decode cX11_init 572 = .ok (.iconst 4, 1) := by decide +kernel
theorem dX11_init_573 : decode cX11_init 573 = .ok (.newarray .int, 2) := by decide +kernel
theorem dX11_init_575 : decode cX11_init 575 = .ok (.putfield 195, 3) := by decide +kernel
theorem dX11_init_578 : decode cX11_init 578 = .ok (.aload_n 0, 1) := by decide +kernel
theorem dX11_init_579 : decode cX11_init 579 = .ok (.iconst 4, 1) := by decide +kernel
theorem dX11_init_580 : decode cX11_init 580 = .ok (.newarray .int, 2) := by decide +kernel
theorem dX11_init_582 : decode cX11_init 582 = .ok (.putfield 198, 3) := by decide +kernel
theorem dX11_init_585 : decode cX11_init 585 = .ok (.aload_n 0, 1) := by decide +kernel
theorem dX11_init_586 : decode cX11_init 586 = .ok (.iconst 4, 1) := by decide +kernel
theorem dX11_init_587 : decode cX11_init 587 = .ok (.newarray .int, 2) := by decide +kernel
theorem dX11_init_589 : decode cX11_init 589 = .ok (.putfield 201, 3) := by decide +kernel
theorem dX11_init_592 : decode cX11_init 592 = .ok (.aload_n 0, 1) := by decide +kernel
theorem dX11_init_593 : decode cX11_init 593 = .ok (.iconst 4, 1) := by decide +kernel
theorem dX11_init_594 : decode cX11_init 594 = .ok (.newarray .int, 2) := by decide +kernel
theorem dX11_init_596 : decode cX11_init 596 = .ok (.putfield 204, 3) := by decide +kernel
theorem dX11_init_599 : decode cX11_init 599 = .ok (.aload_n 0, 1) := by decide +kernel
theorem dX11_init_600 : decode cX11_init 600 = .ok (.iconst 4, 1) := by decide +kernel
theorem dX11_init_601 : decode cX11_init 601 = .ok (.newarray .int, 2) := by decide +kernel
theorem dX11_init_603 : decode cX11_init 603 = .ok (.putfield 207, 3) := by decide +kernel
theorem dX11_init_606 : decode cX11_init 606 = .ok (.aload_n 0, 1) := by decide +kernel
theorem dX11_init_607 : decode cX11_init 607 = .ok (.bipush 16, 2) := by decide +kernel
theorem dX11_init_609 : decode cX11_init 609 = .ok (.newarray .int, 2) := by decide +kernel
theorem dX11_init_611 : decode cX11_init 611 = .ok (.putfield 210, 3) := by decide +kernel
theorem dX11_init_614 : decode cX11_init 614 = .ok (.return_, 1) := by decide +kernel
theorem dX11_thrown_0 : decode cX11_thrown 0 = .ok (.aload_n 0, 1) := by decide +kernel
theorem dX11_thrown_1 : decode cX11_thrown 1 = .ok (.getfield 213, 3) := by decide +kernel
theorem dX11_thrown_4 : decode cX11_thrown 4 = .ok (.ireturn, 1) := by decide +kernel
theorem dX11_in_0 : decode cX11_in 0 = .ok (.iload_n 0, 1) := by decide +kernel
theorem dX11_in_1 : decode cX11_in 1 = .ok (.iload_n 1, 1) := by decide +kernel
theorem dX11_in_2 : decode cX11_in 2 = .ok (.if_icmp .lt 12, 3) := by decide +kernel
theorem dX11_in_5 : decode cX11_in 5 = .ok (.iload_n 0, 1) := by decide +kernel
theorem dX11_in_6 : decode cX11_in 6 = .ok (.iload_n 2, 1) := by decide +kernel
theorem dX11_in_7 : decode cX11_in 7 = .ok (.if_icmp .gt 7, 3) := by decide +kernel
theorem dX11_in_10 : decode cX11_in 10 = .ok (.iconst 1, 1) := by decide +kernel
theorem dX11_in_11 : decode cX11_in 11 = .ok (.goto 4, 3) := by decide +kernel
theorem dX11_in_14 : decode cX11_in 14 = .ok (.iconst 0, 1) := by decide +kernel
theorem dX11_in_15 : decode cX11_in 15 = .ok (.ireturn, 1) := by decide +kernel
theorem dX11_isSource_0 : decode cX11_isSource 0 = .ok (.iload_n 0, 1) := by decide +kernel
theorem dX11_isSource_1 : decode cX11_isSource 1 = .ok (.iconst 0, 1) := by decide +kernel
theorem dX11_isSource_2 : decode cX11_isSource 2 = .ok (.iconst 5, 1) := by decide +kernel
theorem dX11_isSource_3 : decode cX11_isSource 3 = .ok (.invokestatic 216, 3) := by decide +kernel
theorem dX11_isSource_6 : decode cX11_isSource 6 = .ok (.ireturn, 1) := by decide +kernel
theorem dX11_isStore_0 : decode cX11_isStore 0 = .ok (.iload_n 0, 1) := by decide +kernel
theorem dX11_isStore_1 : decode cX11_isStore 1 = .ok (.iconst 0, 1) := by decide +kernel
theorem dX11_isStore_2 : decode cX11_isStore 2 = .ok (.iconst 2, 1) := by decide +kernel
theorem dX11_isStore_3 : decode cX11_isStore 3 = .ok (.invokestatic 216, 3) := by decide +kernel
theorem dX11_isStore_6 : decode cX11_isStore 6 = .ok (.ireturn, 1) := by decide +kernel
theorem dX11_storeOf_0 : decode cX11_storeOf 0 = .ok (.iload_n 0, 1) := by decide +kernel
theorem dX11_storeOf_1 : decode cX11_storeOf 1 = .ok (.iconst 2, 1) := by decide +kernel
theorem dX11_storeOf_2 : decode cX11_storeOf 2 = .ok (.idiv, 1) := by decide +kernel
theorem dX11_storeOf_3 : decode cX11_storeOf 3 = .ok (.ireturn, 1) := by decide +kernel
theorem dX11_isColumn_0 : decode cX11_isColumn 0 = .ok (.iload_n 1, 1) := by decide +kernel
theorem dX11_isColumn_1 : decode cX11_isColumn 1 = .ok (.iconst 0, 1) := by decide +kernel
theorem dX11_isColumn_2 : decode cX11_isColumn 2 = .ok (.iload_n 0, 1) := by decide +kernel
theorem dX11_isColumn_3 : decode cX11_isColumn 3 = .ok (.invokestatic 220, 3) := by decide +kernel
theorem dX11_isColumn_6 : decode cX11_isColumn 6 = .ok (.iconst 1, 1) := by decide +kernel
theorem dX11_isColumn_7 : decode cX11_isColumn 7 = .ok (.if_icmp .ne 7, 3) := by decide +kernel
theorem dX11_isColumn_10 : decode cX11_isColumn 10 = .ok (.iconst 1, 1) := by decide +kernel
theorem dX11_isColumn_11 : decode cX11_isColumn 11 = .ok (.goto 4, 3) := by decide +kernel
theorem dX11_isColumn_14 : decode cX11_isColumn 14 = .ok (.iconst 3, 1) := by decide +kernel
theorem dX11_isColumn_15 : decode cX11_isColumn 15 = .ok (.invokestatic 216, 3) := by decide +kernel
theorem dX11_isColumn_18 : decode cX11_isColumn 18 = .ok (.ireturn, 1) := by decide +kernel
theorem dX11_isNumber_0 : decode cX11_isNumber 0 = .ok (.iload_n 0, 1) := by decide +kernel
theorem dX11_isNumber_1 : decode cX11_isNumber 1 = .ok (.sipush (-999), 3) := by decide +kernel
theorem dX11_isNumber_4 : decode cX11_isNumber 4 = .ok (.sipush 999, 3) := by decide +kernel
theorem dX11_isNumber_7 : decode cX11_isNumber 7 = .ok (.invokestatic 216, 3) := by decide +kernel
theorem dX11_isNumber_10 : decode cX11_isNumber 10 = .ok (.ireturn, 1) := by decide +kernel
theorem dX11_isCell_0 : decode cX11_isCell 0 = .ok (.iload_n 0, 1) := by decide +kernel
theorem dX11_isCell_1 : decode cX11_isCell 1 = .ok (.iload_n 1, 1) := by decide +kernel
theorem dX11_isCell_2 : decode cX11_isCell 2 = .ok (.invokestatic 224, 3) := by decide +kernel
theorem dX11_isCell_5 : decode cX11_isCell 5 = .ok (.ifCond .ne 13, 3) := by decide +kernel
theorem dX11_isCell_8 : decode cX11_isCell 8 = .ok (.iload_n 2, 1) := by decide +kernel
theorem dX11_isCell_9 : decode cX11_isCell 9 = .ok (.ifCond .ne 7, 3) := by decide +kernel
theorem dX11_isCell_12 : decode cX11_isCell 12 = .ok (.iconst 1, 1) := by decide +kernel
theorem dX11_isCell_13 : decode cX11_isCell 13 = .ok (.goto 4, 3) := by decide +kernel
theorem dX11_isCell_16 : decode cX11_isCell 16 = .ok (.iconst 0, 1) := by decide +kernel
theorem dX11_isCell_17 : decode cX11_isCell 17 = .ok (.ireturn, 1) := by decide +kernel
theorem dX11_isCell_18 : decode cX11_isCell 18 = .ok (.iload_n 0, 1) := by decide +kernel
theorem dX11_isCell_19 : decode cX11_isCell 19 = .ok (.iconst 1, 1) := by decide +kernel
theorem dX11_isCell_20 : decode cX11_isCell 20 = .ok (.if_icmp .le 15, 3) := by decide +kernel
theorem dX11_isCell_23 : decode cX11_isCell 23 = .ok (.iload_n 1, 1) := by decide +kernel
theorem dX11_isCell_24 : decode cX11_isCell 24 = .ok (.ifCond .ne 11, 3) := by decide +kernel
theorem dX11_isCell_27 : decode cX11_isCell 27 = .ok (.iload_n 2, 1) := by decide +kernel
theorem dX11_isCell_28 : decode cX11_isCell 28 = .ok (.iconst 0, 1) := by decide +kernel
theorem dX11_isCell_29 : decode cX11_isCell 29 = .ok (.bipush 99, 2) := by decide +kernel
theorem dX11_isCell_31 : decode cX11_isCell 31 = .ok (.invokestatic 216, 3) := by decide +kernel
theorem dX11_isCell_34 : decode cX11_isCell 34 = .ok (.ireturn, 1) := by decide +kernel
theorem dX11_isCell_35 : decode cX11_isCell 35 = .ok (.iload_n 2, 1) := by decide +kernel
theorem dX11_isCell_36 : decode cX11_isCell 36 = .ok (.invokestatic 228, 3) := by decide +kernel
theorem dX11_isCell_39 : decode cX11_isCell 39 = .ok (.ifCond .ne 22, 3) := by decide +kernel
theorem dX11_isCell_42 : decode cX11_isCell 42 = .ok (.iload_n 2, 1) := by decide +kernel
theorem dX11_isCell_43 : decode cX11_isCell 43 = .ok (.sipush 5000, 3) := by decide +kernel
theorem dX11_isCell_46 : decode cX11_isCell 46 = .ok (.if_icmp .eq 15, 3) := by decide +kernel
theorem dX11_isCell_49 : decode cX11_isCell 49 = .ok (.iload_n 2, 1) := by decide +kernel
theorem dX11_isCell_50 : decode cX11_isCell 50 = .ok (.sipush 5001, 3) := by decide +kernel
theorem dX11_isCell_53 : decode cX11_isCell 53 = .ok (.if_icmp .ne 12, 3) := by decide +kernel
theorem dX11_isCell_56 : decode cX11_isCell 56 = .ok (.iload_n 0, 1) := by decide +kernel
theorem dX11_isCell_57 : decode cX11_isCell 57 = .ok (.iconst 3, 1) := by decide +kernel
theorem dX11_isCell_58 : decode cX11_isCell 58 = .ok (.if_icmp .le 7, 3) := by decide +kernel
theorem dX11_isCell_61 : decode cX11_isCell 61 = .ok (.iconst 1, 1) := by decide +kernel
theorem dX11_isCell_62 : decode cX11_isCell 62 = .ok (.goto 4, 3) := by decide +kernel
theorem dX11_isCell_65 : decode cX11_isCell 65 = .ok (.iconst 0, 1) := by decide +kernel
theorem dX11_isCell_66 : decode cX11_isCell 66 = .ok (.ireturn, 1) := by decide +kernel
theorem dX11_placeOf_0 : decode cX11_placeOf 0 = .ok (.iconst (-1), 1) := by decide +kernel
theorem dX11_placeOf_1 : decode cX11_placeOf 1 = .ok (.istore_n 3, 1) := by decide +kernel
theorem dX11_placeOf_2 : decode cX11_placeOf 2 = .ok (.iconst 0, 1) := by decide +kernel
theorem dX11_placeOf_3 : decode cX11_placeOf 3 = .ok (.istore 4, 2) := by decide +kernel
theorem dX11_placeOf_5 : decode cX11_placeOf 5 = .ok (.iload 4, 2) := by decide +kernel
theorem dX11_placeOf_7 : decode cX11_placeOf 7 = .ok (.aload_n 0, 1) := by decide +kernel
theorem dX11_placeOf_8 : decode cX11_placeOf 8 = .ok (.getfield 7, 3) := by decide +kernel
theorem dX11_placeOf_11 : decode cX11_placeOf 11 = .ok (.iload_n 1, 1) := by decide +kernel
theorem dX11_placeOf_12 : decode cX11_placeOf 12 = .ok (.iaload, 1) := by decide +kernel
theorem dX11_placeOf_13 : decode cX11_placeOf 13 = .ok (.if_icmp .ge 32, 3) := by decide +kernel
theorem dX11_placeOf_16 : decode cX11_placeOf 16 = .ok (.aload_n 0, 1) := by decide +kernel
theorem dX11_placeOf_17 : decode cX11_placeOf 17 = .ok (.getfield 13, 3) := by decide +kernel
theorem dX11_placeOf_20 : decode cX11_placeOf 20 = .ok (.bipush 12, 2) := by decide +kernel
theorem dX11_placeOf_22 : decode cX11_placeOf 22 = .ok (.iload_n 1, 1) := by decide +kernel
theorem dX11_placeOf_23 : decode cX11_placeOf 23 = .ok (.imul, 1) := by decide +kernel
theorem dX11_placeOf_24 : decode cX11_placeOf 24 = .ok (.iload 4, 2) := by decide +kernel
theorem dX11_placeOf_26 : decode cX11_placeOf 26 = .ok (.iadd, 1) := by decide +kernel
theorem dX11_placeOf_27 : decode cX11_placeOf 27 = .ok (.iaload, 1) := by decide +kernel
theorem dX11_placeOf_28 : decode cX11_placeOf 28 = .ok (.iload_n 2, 1) := by decide +kernel
theorem dX11_placeOf_29 : decode cX11_placeOf 29 = .ok (.if_icmp .ne 8, 3) := by decide +kernel
theorem dX11_placeOf_32 : decode cX11_placeOf 32 = .ok (.iload 4, 2) := by decide +kernel
theorem dX11_placeOf_34 : decode cX11_placeOf 34 = .ok (.goto 4, 3) := by decide +kernel
theorem dX11_placeOf_37 : decode cX11_placeOf 37 = .ok (.iload_n 3, 1) := by decide +kernel
theorem dX11_placeOf_38 : decode cX11_placeOf 38 = .ok (.istore_n 3, 1) := by decide +kernel
theorem dX11_placeOf_39 : decode cX11_placeOf 39 = .ok (.iinc 4 1, 3) := by decide +kernel
theorem dX11_placeOf_42 : decode cX11_placeOf 42 = .ok (.goto (-37), 3) := by decide +kernel
theorem dX11_placeOf_45 : decode cX11_placeOf 45 = .ok (.iload_n 3, 1) := by decide +kernel
theorem dX11_placeOf_46 : decode cX11_placeOf 46 = .ok (.ireturn, 1) := by decide +kernel
theorem dX11_drops_0 : decode cX11_drops 0 = .ok (.iconst 0, 1) := by decide +kernel
theorem dX11_drops_1 : decode cX11_drops 1 = .ok (.istore_n 1, 1) := by decide +kernel
theorem dX11_drops_2 : decode cX11_drops 2 = .ok (.iconst 0, 1) := by decide +kernel
theorem dX11_drops_3 : decode cX11_drops 3 = .ok (.istore_n 2, 1) := by decide +kernel
theorem dX11_drops_4 : decode cX11_drops 4 = .ok (.iload_n 2, 1) := by decide +kernel
theorem dX11_drops_5 : decode cX11_drops 5 = .ok (.aload_n 0, 1) := by decide +kernel
theorem dX11_drops_6 : decode cX11_drops 6 = .ok (.getfield 232, 3) := by decide +kernel
theorem dX11_drops_9 : decode cX11_drops 9 = .ok (.if_icmp .ge 79, 3) := by decide +kernel
theorem dX11_drops_12 : decode cX11_drops 12 = .ok (.aload_n 0, 1) := by decide +kernel
theorem dX11_drops_13 : decode cX11_drops 13 = .ok (.getfield 114, 3) := by decide +kernel
theorem dX11_drops_16 : decode cX11_drops 16 = .ok (.iload_n 2, 1) := by decide +kernel
theorem dX11_drops_17 : decode cX11_drops 17 = .ok (.iaload, 1) := by decide +kernel
theorem dX11_drops_18 : decode cX11_drops 18 = .ok (.iconst (-1), 1) := by decide +kernel
theorem dX11_drops_19 : decode cX11_drops 19 = .ok (.if_icmp .eq 16, 3) := by decide +kernel
theorem dX11_drops_22 : decode cX11_drops 22 = .ok (.aload_n 0, 1) := by decide +kernel
theorem dX11_drops_23 : decode cX11_drops 23 = .ok (.getfield 235, 3) := by decide +kernel
theorem dX11_drops_26 : decode cX11_drops 26 = .ok (.aload_n 0, 1) := by decide +kernel
theorem dX11_drops_27 : decode cX11_drops 27 = .ok (.getfield 114, 3) := by decide +kernel
theorem dX11_drops_30 : decode cX11_drops 30 = .ok (.iload_n 2, 1) := by decide +kernel
theorem dX11_drops_31 : decode cX11_drops 31 = .ok (.iaload, 1) := by decide +kernel
theorem dX11_drops_32 : decode cX11_drops 32 = .ok (.if_icmp .ge 31, 3) := by decide +kernel
theorem dX11_drops_35 : decode cX11_drops 35 = .ok (.aload_n 0, 1) := by decide +kernel
theorem dX11_drops_36 : decode cX11_drops 36 = .ok (.getfield 235, 3) := by decide +kernel
theorem dX11_drops_39 : decode cX11_drops 39 = .ok (.aload_n 0, 1) := by decide +kernel
theorem dX11_drops_40 : decode cX11_drops 40 = .ok (.getfield 105, 3) := by decide +kernel
theorem dX11_drops_43 : decode cX11_drops 43 = .ok (.iload_n 2, 1) := by decide +kernel
theorem dX11_drops_44 : decode cX11_drops 44 = .ok (.iaload, 1) := by decide +kernel
theorem dX11_drops_45 : decode cX11_drops 45 = .ok (.isub, 1) := by decide +kernel
theorem dX11_drops_46 : decode cX11_drops 46 = .ok (.aload_n 0, 1) := by decide +kernel
theorem dX11_drops_47 : decode cX11_drops 47 = .ok (.getfield 37, 3) := by decide +kernel
theorem dX11_drops_50 : decode cX11_drops 50 = .ok (.aload_n 0, 1) := by decide +kernel
theorem dX11_drops_51 : decode cX11_drops 51 = .ok (.getfield 102, 3) := by decide +kernel
theorem dX11_drops_54 : decode cX11_drops 54 = .ok (.iload_n 2, 1) := by decide +kernel
theorem dX11_drops_55 : decode cX11_drops 55 = .ok (.iaload, 1) := by decide +kernel
theorem dX11_drops_56 : decode cX11_drops 56 = .ok (.invokestatic 220, 3) := by decide +kernel
theorem dX11_drops_59 : decode cX11_drops 59 = .ok (.iaload, 1) := by decide +kernel
theorem dX11_drops_60 : decode cX11_drops 60 = .ok (.if_icmp .le 7, 3) := by decide +kernel
theorem dX11_drops_63 : decode cX11_drops 63 = .ok (.iconst 1, 1) := by decide +kernel
theorem dX11_drops_64 : decode cX11_drops 64 = .ok (.goto 4, 3) := by decide +kernel
theorem dX11_drops_67 : decode cX11_drops 67 = .ok (.iconst 0, 1) := by decide +kernel
theorem dX11_drops_68 : decode cX11_drops 68 = .ok (.istore_n 3, 1) := by decide +kernel
theorem dX11_drops_69 : decode cX11_drops 69 = .ok (.iload_n 3, 1) := by decide +kernel
theorem dX11_drops_70 : decode cX11_drops 70 = .ok (.ifCond .ne 12, 3) := by decide +kernel
theorem dX11_drops_73 : decode cX11_drops 73 = .ok (.aload_n 0, 1) := by decide +kernel
theorem dX11_drops_74 : decode cX11_drops 74 = .ok (.iload_n 2, 1) := by decide +kernel
theorem dX11_drops_75 : decode cX11_drops 75 = .ok (.iload_n 1, 1) := by decide +kernel
theorem dX11_drops_76 : decode cX11_drops 76 = .ok (.invokevirtual 238, 3) := by decide +kernel
theorem dX11_drops_79 : decode cX11_drops 79 = .ok (.iinc 1 1, 3) := by decide +kernel
theorem dX11_drops_82 : decode cX11_drops 82 = .ok (.iinc 2 1, 3) := by decide +kernel
theorem dX11_drops_85 : decode cX11_drops 85 = .ok (.goto (-81), 3) := by decide +kernel
theorem dX11_drops_88 : decode cX11_drops 88 = .ok (.aload_n 0, 1) := by decide +kernel
theorem dX11_drops_89 : decode cX11_drops 89 = .ok (.iload_n 1, 1) := by decide +kernel
theorem dX11_drops_90 : decode cX11_drops 90 = .ok (.putfield 232, 3) := by decide +kernel
theorem dX11_drops_93 : decode cX11_drops 93 = .ok (.return_, 1) := by decide +kernel
theorem dX11_moves_0 : decode cX11_moves 0 = .ok (.aload_n 0, 1) := by decide +kernel
theorem dX11_moves_1 : decode cX11_moves 1 = .ok (.getfield 102, 3) := by decide +kernel
theorem dX11_moves_4 : decode cX11_moves 4 = .ok (.iload_n 2, 1) := by decide +kernel
theorem dX11_moves_5 : decode cX11_moves 5 = .ok (.aload_n 0, 1) := by decide +kernel
theorem dX11_moves_6 : decode cX11_moves 6 = .ok (.getfield 102, 3) := by decide +kernel
theorem dX11_moves_9 : decode cX11_moves 9 = .ok (.iload_n 1, 1) := by decide +kernel
theorem dX11_moves_10 : decode cX11_moves 10 = .ok (.iaload, 1) := by decide +kernel
theorem dX11_moves_11 : decode cX11_moves 11 = .ok (.iastore, 1) := by decide +kernel
theorem dX11_moves_12 : decode cX11_moves 12 = .ok (.aload_n 0, 1) := by decide +kernel
theorem dX11_moves_13 : decode cX11_moves 13 = .ok (.getfield 105, 3) := by decide +kernel
theorem dX11_moves_16 : decode cX11_moves 16 = .ok (.iload_n 2, 1) := by decide +kernel
theorem dX11_moves_17 : decode cX11_moves 17 = .ok (.aload_n 0, 1) := by decide +kernel
theorem dX11_moves_18 : decode cX11_moves 18 = .ok (.getfield 105, 3) := by decide +kernel
theorem dX11_moves_21 : decode cX11_moves 21 = .ok (.iload_n 1, 1) := by decide +kernel
theorem dX11_moves_22 : decode cX11_moves 22 = .ok (.iaload, 1) := by decide +kernel
theorem dX11_moves_23 : decode cX11_moves 23 = .ok (.iastore, 1) := by decide +kernel
theorem dX11_moves_24 : decode cX11_moves 24 = .ok (.aload_n 0, 1) := by decide +kernel
theorem dX11_moves_25 : decode cX11_moves 25 = .ok (.getfield 108, 3) := by decide +kernel
theorem dX11_moves_28 : decode cX11_moves 28 = .ok (.iload_n 2, 1) := by decide +kernel
theorem dX11_moves_29 : decode cX11_moves 29 = .ok (.aload_n 0, 1) := by decide +kernel
theorem dX11_moves_30 : decode cX11_moves 30 = .ok (.getfield 108, 3) := by decide +kernel
theorem dX11_moves_33 : decode cX11_moves 33 = .ok (.iload_n 1, 1) := by decide +kernel
theorem dX11_moves_34 : decode cX11_moves 34 = .ok (.iaload, 1) := by decide +kernel
theorem dX11_moves_35 : decode cX11_moves 35 = .ok (.iastore, 1) := by decide +kernel
theorem dX11_moves_36 : decode cX11_moves 36 = .ok (.aload_n 0, 1) := by decide +kernel
theorem dX11_moves_37 : decode cX11_moves 37 = .ok (.getfield 111, 3) := by decide +kernel
theorem dX11_moves_40 : decode cX11_moves 40 = .ok (.iload_n 2, 1) := by decide +kernel
theorem dX11_moves_41 : decode cX11_moves 41 = .ok (.aload_n 0, 1) := by decide +kernel
theorem dX11_moves_42 : decode cX11_moves 42 = .ok (.getfield 111, 3) := by decide +kernel
theorem dX11_moves_45 : decode cX11_moves 45 = .ok (.iload_n 1, 1) := by decide +kernel
theorem dX11_moves_46 : decode cX11_moves 46 = .ok (.iaload, 1) := by decide +kernel
theorem dX11_moves_47 : decode cX11_moves 47 = .ok (.iastore, 1) := by decide +kernel
theorem dX11_moves_48 : decode cX11_moves 48 = .ok (.aload_n 0, 1) := by decide +kernel
theorem dX11_moves_49 : decode cX11_moves 49 = .ok (.getfield 114, 3) := by decide +kernel
theorem dX11_moves_52 : decode cX11_moves 52 = .ok (.iload_n 2, 1) := by decide +kernel
theorem dX11_moves_53 : decode cX11_moves 53 = .ok (.aload_n 0, 1) := by decide +kernel
theorem dX11_moves_54 : decode cX11_moves 54 = .ok (.getfield 114, 3) := by decide +kernel
theorem dX11_moves_57 : decode cX11_moves 57 = .ok (.iload_n 1, 1) := by decide +kernel
theorem dX11_moves_58 : decode cX11_moves 58 = .ok (.iaload, 1) := by decide +kernel
theorem dX11_moves_59 : decode cX11_moves 59 = .ok (.iastore, 1) := by decide +kernel
theorem dX11_moves_60 : decode cX11_moves 60 = .ok (.aload_n 0, 1) := by decide +kernel
theorem dX11_moves_61 : decode cX11_moves 61 = .ok (.getfield 117, 3) := by decide +kernel
theorem dX11_moves_64 : decode cX11_moves 64 = .ok (.iload_n 2, 1) := by decide +kernel
theorem dX11_moves_65 : decode cX11_moves 65 = .ok (.aload_n 0, 1) := by decide +kernel
theorem dX11_moves_66 : decode cX11_moves 66 = .ok (.getfield 117, 3) := by decide +kernel
theorem dX11_moves_69 : decode cX11_moves 69 = .ok (.iload_n 1, 1) := by decide +kernel
theorem dX11_moves_70 : decode cX11_moves 70 = .ok (.iaload, 1) := by decide +kernel
theorem dX11_moves_71 : decode cX11_moves 71 = .ok (.iastore, 1) := by decide +kernel
theorem dX11_moves_72 : decode cX11_moves 72 = .ok (.aload_n 0, 1) := by decide +kernel
theorem dX11_moves_73 : decode cX11_moves 73 = .ok (.getfield 126, 3) := by decide +kernel
theorem dX11_moves_76 : decode cX11_moves 76 = .ok (.iload_n 2, 1) := by decide +kernel
theorem dX11_moves_77 : decode cX11_moves 77 = .ok (.aload_n 0, 1) := by decide +kernel
theorem dX11_moves_78 : decode cX11_moves 78 = .ok (.getfield 126, 3) := by decide +kernel
theorem dX11_moves_81 : decode cX11_moves 81 = .ok (.iload_n 1, 1) := by decide +kernel
theorem dX11_moves_82 : decode cX11_moves 82 = .ok (.iaload, 1) := by decide +kernel
theorem dX11_moves_83 : decode cX11_moves 83 = .ok (.iastore, 1) := by decide +kernel
theorem dX11_moves_84 : decode cX11_moves 84 = .ok (.iconst 0, 1) := by decide +kernel
theorem dX11_moves_85 : decode cX11_moves 85 = .ok (.istore_n 3, 1) := by decide +kernel
theorem dX11_moves_86 : decode cX11_moves 86 = .ok (.iload_n 3, 1) := by decide +kernel
theorem dX11_moves_87 : decode cX11_moves 87 = .ok (.bipush 12, 2) := by decide +kernel
theorem dX11_moves_89 : decode cX11_moves 89 = .ok (.if_icmp .ge 31, 3) := by decide +kernel
theorem dX11_moves_92 : decode cX11_moves 92 = .ok (.aload_n 0, 1) := by decide +kernel
theorem dX11_moves_93 : decode cX11_moves 93 = .ok (.getfield 120, 3) := by decide +kernel
theorem dX11_moves_96 : decode cX11_moves 96 = .ok (.bipush 12, 2) := by decide +kernel
theorem dX11_moves_98 : decode cX11_moves 98 = .ok (.iload_n 2, 1) := by decide +kernel
theorem dX11_moves_99 : decode cX11_moves 99 = .ok (.imul, 1) := by decide +kernel
theorem dX11_moves_100 : decode cX11_moves 100 = .ok (.iload_n 3, 1) := by decide +kernel
theorem dX11_moves_101 : decode cX11_moves 101 = .ok (.iadd, 1) := by decide +kernel
theorem dX11_moves_102 : decode cX11_moves 102 = .ok (.aload_n 0, 1) := by decide +kernel
theorem dX11_moves_103 : decode cX11_moves 103 = .ok (.getfield 120, 3) := by decide +kernel
theorem dX11_moves_106 : decode cX11_moves 106 = .ok (.bipush 12, 2) := by decide +kernel
theorem dX11_moves_108 : decode cX11_moves 108 = .ok (.iload_n 1, 1) := by decide +kernel
theorem dX11_moves_109 : decode cX11_moves 109 = .ok (.imul, 1) := by decide +kernel
theorem dX11_moves_110 : decode cX11_moves 110 = .ok (.iload_n 3, 1) := by decide +kernel
theorem dX11_moves_111 : decode cX11_moves 111 = .ok (.iadd, 1) := by decide +kernel
theorem dX11_moves_112 : decode cX11_moves 112 = .ok (.iaload, 1) := by decide +kernel
theorem dX11_moves_113 : decode cX11_moves 113 = .ok (.iastore, 1) := by decide +kernel
theorem dX11_moves_114 : decode cX11_moves 114 = .ok (.iinc 3 1, 3) := by decide +kernel
theorem dX11_moves_117 : decode cX11_moves 117 = .ok (.goto (-31), 3) := by decide +kernel
theorem dX11_moves_120 : decode cX11_moves 120 = .ok (.iconst 0, 1) := by decide +kernel
theorem dX11_moves_121 : decode cX11_moves 121 = .ok (.istore_n 3, 1) := by decide +kernel
theorem dX11_moves_122 : decode cX11_moves 122 = .ok (.iload_n 3, 1) := by decide +kernel
theorem dX11_moves_123 : decode cX11_moves 123 = .ok (.bipush 48, 2) := by decide +kernel
theorem dX11_moves_125 : decode cX11_moves 125 = .ok (.if_icmp .ge 31, 3) := by decide +kernel
theorem dX11_moves_128 : decode cX11_moves 128 = .ok (.aload_n 0, 1) := by decide +kernel
theorem dX11_moves_129 : decode cX11_moves 129 = .ok (.getfield 123, 3) := by decide +kernel
theorem dX11_moves_132 : decode cX11_moves 132 = .ok (.bipush 48, 2) := by decide +kernel
theorem dX11_moves_134 : decode cX11_moves 134 = .ok (.iload_n 2, 1) := by decide +kernel
theorem dX11_moves_135 : decode cX11_moves 135 = .ok (.imul, 1) := by decide +kernel
theorem dX11_moves_136 : decode cX11_moves 136 = .ok (.iload_n 3, 1) := by decide +kernel
theorem dX11_moves_137 : decode cX11_moves 137 = .ok (.iadd, 1) := by decide +kernel
theorem dX11_moves_138 : decode cX11_moves 138 = .ok (.aload_n 0, 1) := by decide +kernel
theorem dX11_moves_139 : decode cX11_moves 139 = .ok (.getfield 123, 3) := by decide +kernel
theorem dX11_moves_142 : decode cX11_moves 142 = .ok (.bipush 48, 2) := by decide +kernel
theorem dX11_moves_144 : decode cX11_moves 144 = .ok (.iload_n 1, 1) := by decide +kernel
theorem dX11_moves_145 : decode cX11_moves 145 = .ok (.imul, 1) := by decide +kernel
theorem dX11_moves_146 : decode cX11_moves 146 = .ok (.iload_n 3, 1) := by decide +kernel
theorem dX11_moves_147 : decode cX11_moves 147 = .ok (.iadd, 1) := by decide +kernel
theorem dX11_moves_148 : decode cX11_moves 148 = .ok (.iaload, 1) := by decide +kernel
theorem dX11_moves_149 : decode cX11_moves 149 = .ok (.iastore, 1) := by decide +kernel
theorem dX11_moves_150 : decode cX11_moves 150 = .ok (.iinc 3 1, 3) := by decide +kernel
theorem dX11_moves_153 : decode cX11_moves 153 = .ok (.goto (-31), 3) := by decide +kernel
theorem dX11_moves_156 : decode cX11_moves 156 = .ok (.iconst 0, 1) := by decide +kernel
theorem dX11_moves_157 : decode cX11_moves 157 = .ok (.istore_n 3, 1) := by decide +kernel
theorem dX11_moves_158 : decode cX11_moves 158 = .ok (.iload_n 3, 1) := by decide +kernel
theorem dX11_moves_159 : decode cX11_moves 159 = .ok (.iconst 4, 1) := by decide +kernel
theorem dX11_moves_160 : decode cX11_moves 160 = .ok (.if_icmp .ge 69, 3) := by decide +kernel
theorem dX11_moves_163 : decode cX11_moves 163 = .ok (.aload_n 0, 1) := by decide +kernel
theorem dX11_moves_164 : decode cX11_moves 164 = .ok (.getfield 129, 3) := by decide +kernel
theorem dX11_moves_167 : decode cX11_moves 167 = .ok (.iconst 4, 1) := by decide +kernel
theorem dX11_moves_168 : decode cX11_moves 168 = .ok (.iload_n 2, 1) := by decide +kernel
theorem dX11_moves_169 : decode cX11_moves 169 = .ok (.imul, 1) := by decide +kernel
theorem dX11_moves_170 : decode cX11_moves 170 = .ok (.iload_n 3, 1) := by decide +kernel
theorem dX11_moves_171 : decode cX11_moves 171 = .ok (.iadd, 1) := by decide +kernel
theorem dX11_moves_172 : decode cX11_moves 172 = .ok (.aload_n 0, 1) := by decide +kernel
theorem dX11_moves_173 : decode cX11_moves 173 = .ok (.getfield 129, 3) := by decide +kernel
theorem dX11_moves_176 : decode cX11_moves 176 = .ok (.iconst 4, 1) := by decide +kernel
theorem dX11_moves_177 : decode cX11_moves 177 = .ok (.iload_n 1, 1) := by decide +kernel
theorem dX11_moves_178 : decode cX11_moves 178 = .ok (.imul, 1) := by decide +kernel
theorem dX11_moves_179 : decode cX11_moves 179 = .ok (.iload_n 3, 1) := by decide +kernel
theorem dX11_moves_180 : decode cX11_moves 180 = .ok (.iadd, 1) := by decide +kernel
theorem dX11_moves_181 : decode cX11_moves 181 = .ok (.iaload, 1) := by decide +kernel
theorem dX11_moves_182 : decode cX11_moves 182 = .ok (.iastore, 1) := by decide +kernel
theorem dX11_moves_183 : decode cX11_moves 183 = .ok (.aload_n 0, 1) := by decide +kernel
theorem dX11_moves_184 : decode cX11_moves 184 = .ok (.getfield 132, 3) := by decide +kernel
theorem dX11_moves_187 : decode cX11_moves 187 = .ok (.iconst 4, 1) := by decide +kernel
theorem dX11_moves_188 : decode cX11_moves 188 = .ok (.iload_n 2, 1) := by decide +kernel
theorem dX11_moves_189 : decode cX11_moves 189 = .ok (.imul, 1) := by decide +kernel
theorem dX11_moves_190 : decode cX11_moves 190 = .ok (.iload_n 3, 1) := by decide +kernel
theorem dX11_moves_191 : decode cX11_moves 191 = .ok (.iadd, 1) := by decide +kernel
theorem dX11_moves_192 : decode cX11_moves 192 = .ok (.aload_n 0, 1) := by decide +kernel
theorem dX11_moves_193 : decode cX11_moves 193 = .ok (.getfield 132, 3) := by decide +kernel
theorem dX11_moves_196 : decode cX11_moves 196 = .ok (.iconst 4, 1) := by decide +kernel
theorem dX11_moves_197 : decode cX11_moves 197 = .ok (.iload_n 1, 1) := by decide +kernel
theorem dX11_moves_198 : decode cX11_moves 198 = .ok (.imul, 1) := by decide +kernel
theorem dX11_moves_199 : decode cX11_moves 199 = .ok (.iload_n 3, 1) := by decide +kernel
theorem dX11_moves_200 : decode cX11_moves 200 = .ok (.iadd, 1) := by decide +kernel
theorem dX11_moves_201 : decode cX11_moves 201 = .ok (.iaload, 1) := by decide +kernel
theorem dX11_moves_202 : decode cX11_moves 202 = .ok (.iastore, 1) := by decide +kernel
theorem dX11_moves_203 : decode cX11_moves 203 = .ok (.aload_n 0, 1) := by decide +kernel
theorem dX11_moves_204 : decode cX11_moves 204 = .ok (.getfield 135, 3) := by decide +kernel
theorem dX11_moves_207 : decode cX11_moves 207 = .ok (.iconst 4, 1) := by decide +kernel
theorem dX11_moves_208 : decode cX11_moves 208 = .ok (.iload_n 2, 1) := by decide +kernel
theorem dX11_moves_209 : decode cX11_moves 209 = .ok (.imul, 1) := by decide +kernel
theorem dX11_moves_210 : decode cX11_moves 210 = .ok (.iload_n 3, 1) := by decide +kernel
theorem dX11_moves_211 : decode cX11_moves 211 = .ok (.iadd, 1) := by decide +kernel
theorem dX11_moves_212 : decode cX11_moves 212 = .ok (.aload_n 0, 1) := by decide +kernel
theorem dX11_moves_213 : decode cX11_moves 213 = .ok (.getfield 135, 3) := by decide +kernel
theorem dX11_moves_216 : decode cX11_moves 216 = .ok (.iconst 4, 1) := by decide +kernel
theorem dX11_moves_217 : decode cX11_moves 217 = .ok (.iload_n 1, 1) := by decide +kernel
theorem dX11_moves_218 : decode cX11_moves 218 = .ok (.imul, 1) := by decide +kernel
theorem dX11_moves_219 : decode cX11_moves 219 = .ok (.iload_n 3, 1) := by decide +kernel
theorem dX11_moves_220 : decode cX11_moves 220 = .ok (.iadd, 1) := by decide +kernel
theorem dX11_moves_221 : decode cX11_moves 221 = .ok (.iaload, 1) := by decide +kernel
theorem dX11_moves_222 : decode cX11_moves 222 = .ok (.iastore, 1) := by decide +kernel
theorem dX11_moves_223 : decode cX11_moves 223 = .ok (.iinc 3 1, 3) := by decide +kernel
theorem dX11_moves_226 : decode cX11_moves 226 = .ok (.goto (-68), 3) := by decide +kernel
theorem dX11_moves_229 : decode cX11_moves 229 = .ok (.return_, 1) := by decide +kernel
theorem dX11_writes_0 : decode cX11_writes 0 = .ok (.aload_n 0, 1) := by decide +kernel
theorem dX11_writes_1 : decode cX11_writes 1 = .ok (.dup, 1) := by decide +kernel
theorem dX11_writes_2 : decode cX11_writes 2 = .ok (.getfield 242, 3) := by decide +kernel
theorem dX11_writes_5 : decode cX11_writes 5 = .ok (.iconst 1, 1) := by decide +kernel
theorem dX11_writes_6 : decode cX11_writes 6 = .ok (.iadd, 1) := by decide +kernel
theorem dX11_writes_7 : decode cX11_writes 7 = .ok (.putfield 242, 3) := by decide +kernel
theorem dX11_writes_10 : decode cX11_writes 10 = .ok (.aload_n 0, 1) := by decide +kernel
theorem dX11_writes_11 : decode cX11_writes 11 = .ok (.getfield 22, 3) := by decide +kernel
theorem dX11_writes_14 : decode cX11_writes 14 = .ok (.iload_n 1, 1) := by decide +kernel
theorem dX11_writes_15 : decode cX11_writes 15 = .ok (.aload_n 0, 1) := by decide +kernel
theorem dX11_writes_16 : decode cX11_writes 16 = .ok (.getfield 242, 3) := by decide +kernel
theorem dX11_writes_19 : decode cX11_writes 19 = .ok (.iastore, 1) := by decide +kernel
theorem dX11_writes_20 : decode cX11_writes 20 = .ok (.iconst 0, 1) := by decide +kernel
theorem dX11_writes_21 : decode cX11_writes 21 = .ok (.istore_n 2, 1) := by decide +kernel
theorem dX11_writes_22 : decode cX11_writes 22 = .ok (.iload_n 2, 1) := by decide +kernel
theorem dX11_writes_23 : decode cX11_writes 23 = .ok (.aload_n 0, 1) := by decide +kernel
theorem dX11_writes_24 : decode cX11_writes 24 = .ok (.getfield 232, 3) := by decide +kernel
theorem dX11_writes_27 : decode cX11_writes 27 = .ok (.if_icmp .ge 101, 3) := by decide +kernel
theorem dX11_writes_30 : decode cX11_writes 30 = .ok (.aload_n 0, 1) := by decide +kernel
theorem dX11_writes_31 : decode cX11_writes 31 = .ok (.getfield 102, 3) := by decide +kernel
theorem dX11_writes_34 : decode cX11_writes 34 = .ok (.iload_n 2, 1) := by decide +kernel
theorem dX11_writes_35 : decode cX11_writes 35 = .ok (.iaload, 1) := by decide +kernel
theorem dX11_writes_36 : decode cX11_writes 36 = .ok (.iload_n 1, 1) := by decide +kernel
theorem dX11_writes_37 : decode cX11_writes 37 = .ok (.if_icmp .ne 85, 3) := by decide +kernel
theorem dX11_writes_40 : decode cX11_writes 40 = .ok (.aload_n 0, 1) := by decide +kernel
theorem dX11_writes_41 : decode cX11_writes 41 = .ok (.getfield 235, 3) := by decide +kernel
theorem dX11_writes_44 : decode cX11_writes 44 = .ok (.aload_n 0, 1) := by decide +kernel
theorem dX11_writes_45 : decode cX11_writes 45 = .ok (.getfield 28, 3) := by decide +kernel
theorem dX11_writes_48 : decode cX11_writes 48 = .ok (.iload_n 1, 1) := by decide +kernel
theorem dX11_writes_49 : decode cX11_writes 49 = .ok (.invokestatic 220, 3) := by decide +kernel
theorem dX11_writes_52 : decode cX11_writes 52 = .ok (.iaload, 1) := by decide +kernel
theorem dX11_writes_53 : decode cX11_writes 53 = .ok (.iadd, 1) := by decide +kernel
theorem dX11_writes_54 : decode cX11_writes 54 = .ok (.istore_n 3, 1) := by decide +kernel
theorem dX11_writes_55 : decode cX11_writes 55 = .ok (.aload_n 0, 1) := by decide +kernel
theorem dX11_writes_56 : decode cX11_writes 56 = .ok (.getfield 111, 3) := by decide +kernel
theorem dX11_writes_59 : decode cX11_writes 59 = .ok (.iload_n 2, 1) := by decide +kernel
theorem dX11_writes_60 : decode cX11_writes 60 = .ok (.aload_n 0, 1) := by decide +kernel
theorem dX11_writes_61 : decode cX11_writes 61 = .ok (.getfield 111, 3) := by decide +kernel
theorem dX11_writes_64 : decode cX11_writes 64 = .ok (.iload_n 2, 1) := by decide +kernel
theorem dX11_writes_65 : decode cX11_writes 65 = .ok (.iaload, 1) := by decide +kernel
theorem dX11_writes_66 : decode cX11_writes 66 = .ok (.iconst (-1), 1) := by decide +kernel
theorem dX11_writes_67 : decode cX11_writes 67 = .ok (.if_icmp .ne 12, 3) := by decide +kernel
theorem dX11_writes_70 : decode cX11_writes 70 = .ok (.aload_n 0, 1) := by decide +kernel
theorem dX11_writes_71 : decode cX11_writes 71 = .ok (.getfield 242, 3) := by decide +kernel
theorem dX11_writes_74 : decode cX11_writes 74 = .ok (.iconst 1, 1) := by decide +kernel
theorem dX11_writes_75 : decode cX11_writes 75 = .ok (.isub, 1) := by decide +kernel
theorem dX11_writes_76 : decode cX11_writes 76 = .ok (.goto 9, 3) := by decide +kernel
theorem dX11_writes_79 : decode cX11_writes 79 = .ok (.aload_n 0, 1) := by decide +kernel
theorem dX11_writes_80 : decode cX11_writes 80 = .ok (.getfield 111, 3) := by decide +kernel
theorem dX11_writes_83 : decode cX11_writes 83 = .ok (.iload_n 2, 1) := by decide +kernel
theorem dX11_writes_84 : decode cX11_writes 84 = .ok (.iaload, 1) := by decide +kernel
theorem dX11_writes_85 : decode cX11_writes 85 = .ok (.iastore, 1) := by decide +kernel
theorem dX11_writes_86 : decode cX11_writes 86 = .ok (.aload_n 0, 1) := by decide +kernel
theorem dX11_writes_87 : decode cX11_writes 87 = .ok (.getfield 114, 3) := by decide +kernel
theorem dX11_writes_90 : decode cX11_writes 90 = .ok (.iload_n 2, 1) := by decide +kernel
theorem dX11_writes_91 : decode cX11_writes 91 = .ok (.aload_n 0, 1) := by decide +kernel
theorem dX11_writes_92 : decode cX11_writes 92 = .ok (.getfield 114, 3) := by decide +kernel
theorem dX11_writes_95 : decode cX11_writes 95 = .ok (.iload_n 2, 1) := by decide +kernel
theorem dX11_writes_96 : decode cX11_writes 96 = .ok (.iaload, 1) := by decide +kernel
theorem dX11_writes_97 : decode cX11_writes 97 = .ok (.iconst (-1), 1) := by decide +kernel
theorem dX11_writes_98 : decode cX11_writes 98 = .ok (.if_icmp .eq 13, 3) := by decide +kernel
theorem dX11_writes_101 : decode cX11_writes 101 = .ok (.iload_n 3, 1) := by decide +kernel
theorem dX11_writes_102 : decode cX11_writes 102 = .ok (.aload_n 0, 1) := by decide +kernel
theorem dX11_writes_103 : decode cX11_writes 103 = .ok (.getfield 114, 3) := by decide +kernel
theorem dX11_writes_106 : decode cX11_writes 106 = .ok (.iload_n 2, 1) := by decide +kernel
theorem dX11_writes_107 : decode cX11_writes 107 = .ok (.iaload, 1) := by decide +kernel
theorem dX11_writes_108 : decode cX11_writes 108 = .ok (.if_icmp .ge 7, 3) := by decide +kernel
theorem dX11_writes_111 : decode cX11_writes 111 = .ok (.iload_n 3, 1) := by decide +kernel
theorem dX11_writes_112 : decode cX11_writes 112 = .ok (.goto 9, 3) := by decide +kernel
theorem dX11_writes_115 : decode cX11_writes 115 = .ok (.aload_n 0, 1) := by decide +kernel
theorem dX11_writes_116 : decode cX11_writes 116 = .ok (.getfield 114, 3) := by decide +kernel
theorem dX11_writes_119 : decode cX11_writes 119 = .ok (.iload_n 2, 1) := by decide +kernel
theorem dX11_writes_120 : decode cX11_writes 120 = .ok (.iaload, 1) := by decide +kernel
theorem dX11_writes_121 : decode cX11_writes 121 = .ok (.iastore, 1) := by decide +kernel
theorem dX11_writes_122 : decode cX11_writes 122 = .ok (.iinc 2 1, 3) := by decide +kernel
theorem dX11_writes_125 : decode cX11_writes 125 = .ok (.goto (-103), 3) := by decide +kernel
theorem dX11_writes_128 : decode cX11_writes 128 = .ok (.aload_n 0, 1) := by decide +kernel
theorem dX11_writes_129 : decode cX11_writes 129 = .ok (.invokevirtual 245, 3) := by decide +kernel
theorem dX11_writes_132 : decode cX11_writes 132 = .ok (.return_, 1) := by decide +kernel
theorem dX11_inserts_0 : decode cX11_inserts 0 = .ok (.aload_n 0, 1) := by decide +kernel
theorem dX11_inserts_1 : decode cX11_inserts 1 = .ok (.getfield 7, 3) := by decide +kernel
theorem dX11_inserts_4 : decode cX11_inserts 4 = .ok (.iload_n 1, 1) := by decide +kernel
theorem dX11_inserts_5 : decode cX11_inserts 5 = .ok (.iaload, 1) := by decide +kernel
theorem dX11_inserts_6 : decode cX11_inserts 6 = .ok (.istore 7, 2) := by decide +kernel
theorem dX11_inserts_8 : decode cX11_inserts 8 = .ok (.iload 7, 2) := by decide +kernel
theorem dX11_inserts_10 : decode cX11_inserts 10 = .ok (.ifCond .le 93, 3) := by decide +kernel
theorem dX11_inserts_13 : decode cX11_inserts 13 = .ok (.aload_n 0, 1) := by decide +kernel
theorem dX11_inserts_14 : decode cX11_inserts 14 = .ok (.getfield 13, 3) := by decide +kernel
theorem dX11_inserts_17 : decode cX11_inserts 17 = .ok (.bipush 12, 2) := by decide +kernel
theorem dX11_inserts_19 : decode cX11_inserts 19 = .ok (.iload_n 1, 1) := by decide +kernel
theorem dX11_inserts_20 : decode cX11_inserts 20 = .ok (.imul, 1) := by decide +kernel
theorem dX11_inserts_21 : decode cX11_inserts 21 = .ok (.iload 7, 2) := by decide +kernel
theorem dX11_inserts_23 : decode cX11_inserts 23 = .ok (.iadd, 1) := by decide +kernel
theorem dX11_inserts_24 : decode cX11_inserts 24 = .ok (.iconst 1, 1) := by decide +kernel
theorem dX11_inserts_25 : decode cX11_inserts 25 = .ok (.isub, 1) := by decide +kernel
theorem dX11_inserts_26 : decode cX11_inserts 26 = .ok (.iaload, 1) := by decide +kernel
theorem dX11_inserts_27 : decode cX11_inserts 27 = .ok (.iload_n 2, 1) := by decide +kernel
theorem dX11_inserts_28 : decode cX11_inserts 28 = .ok (.if_icmp .le 75, 3) := by decide +kernel
theorem dX11_inserts_31 : decode cX11_inserts 31 = .ok (.bipush 12, 2) := by decide +kernel
theorem dX11_inserts_33 : decode cX11_inserts 33 = .ok (.iload_n 1, 1) := by decide +kernel
theorem dX11_inserts_34 : decode cX11_inserts 34 = .ok (.imul, 1) := by decide +kernel
theorem dX11_inserts_35 : decode cX11_inserts 35 = .ok (.iload 7, 2) := by decide +kernel
theorem dX11_inserts_37 : decode cX11_inserts 37 = .ok (.iadd, 1) := by decide +kernel
theorem dX11_inserts_38 : decode cX11_inserts 38 = .ok (.istore 8, 2) := by decide +kernel
theorem dX11_inserts_40 : decode cX11_inserts 40 = .ok (.aload_n 0, 1) := by decide +kernel
theorem dX11_inserts_41 : decode cX11_inserts 41 = .ok (.getfield 13, 3) := by decide +kernel
theorem dX11_inserts_44 : decode cX11_inserts 44 = .ok (.iload 8, 2) := by decide +kernel
theorem dX11_inserts_46 : decode cX11_inserts 46 = .ok (.aload_n 0, 1) := by decide +kernel
theorem dX11_inserts_47 : decode cX11_inserts 47 = .ok (.getfield 13, 3) := by decide +kernel
theorem dX11_inserts_50 : decode cX11_inserts 50 = .ok (.iload 8, 2) := by decide +kernel
theorem dX11_inserts_52 : decode cX11_inserts 52 = .ok (.iconst 1, 1) := by decide +kernel
theorem dX11_inserts_53 : decode cX11_inserts 53 = .ok (.isub, 1) := by decide +kernel
theorem dX11_inserts_54 : decode cX11_inserts 54 = .ok (.iaload, 1) := by decide +kernel
theorem dX11_inserts_55 : decode cX11_inserts 55 = .ok (.iastore, 1) := by decide +kernel
theorem dX11_inserts_56 : decode cX11_inserts 56 = .ok (.iconst 0, 1) := by decide +kernel
theorem dX11_inserts_57 : decode cX11_inserts 57 = .ok (.istore 9, 2) := by decide +kernel
theorem dX11_inserts_59 : decode cX11_inserts 59 = .ok (.iload 9, 2) := by decide +kernel
theorem dX11_inserts_61 : decode cX11_inserts 61 = .ok (.iconst 4, 1) := by decide +kernel
theorem dX11_inserts_62 : decode cX11_inserts 62 = .ok (.if_icmp .ge 35, 3) := by decide +kernel
theorem dX11_inserts_65 : decode cX11_inserts 65 = .ok (.aload_n 0, 1) := by decide +kernel
theorem dX11_inserts_66 : decode cX11_inserts 66 = .ok (.getfield 16, 3) := by decide +kernel
theorem dX11_inserts_69 : decode cX11_inserts 69 = .ok (.iconst 4, 1) := by decide +kernel
theorem dX11_inserts_70 : decode cX11_inserts 70 = .ok (.iload 8, 2) := by decide +kernel
theorem dX11_inserts_72 : decode cX11_inserts 72 = .ok (.imul, 1) := by decide +kernel
theorem dX11_inserts_73 : decode cX11_inserts 73 = .ok (.iload 9, 2) := by decide +kernel
theorem dX11_inserts_75 : decode cX11_inserts 75 = .ok (.iadd, 1) := by decide +kernel
theorem dX11_inserts_76 : decode cX11_inserts 76 = .ok (.aload_n 0, 1) := by decide +kernel
theorem dX11_inserts_77 : decode cX11_inserts 77 = .ok (.getfield 16, 3) := by decide +kernel
theorem dX11_inserts_80 : decode cX11_inserts 80 = .ok (.iconst 4, 1) := by decide +kernel
theorem dX11_inserts_81 : decode cX11_inserts 81 = .ok (.iload 8, 2) := by decide +kernel
theorem dX11_inserts_83 : decode cX11_inserts 83 = .ok (.iconst 1, 1) := by decide +kernel
theorem dX11_inserts_84 : decode cX11_inserts 84 = .ok (.isub, 1) := by decide +kernel
theorem dX11_inserts_85 : decode cX11_inserts 85 = .ok (.imul, 1) := by decide +kernel
theorem dX11_inserts_86 : decode cX11_inserts 86 = .ok (.iload 9, 2) := by decide +kernel
theorem dX11_inserts_88 : decode cX11_inserts 88 = .ok (.iadd, 1) := by decide +kernel
theorem dX11_inserts_89 : decode cX11_inserts 89 = .ok (.iaload, 1) := by decide +kernel
theorem dX11_inserts_90 : decode cX11_inserts 90 = .ok (.iastore, 1) := by decide +kernel
theorem dX11_inserts_91 : decode cX11_inserts 91 = .ok (.iinc 9 1, 3) := by decide +kernel
theorem dX11_inserts_94 : decode cX11_inserts 94 = .ok (.goto (-35), 3) := by decide +kernel
theorem dX11_inserts_97 : decode cX11_inserts 97 = .ok (.iinc 7 (-1), 3) := by decide +kernel
theorem dX11_inserts_100 : decode cX11_inserts 100 = .ok (.goto (-92), 3) := by decide +kernel
theorem dX11_inserts_103 : decode cX11_inserts 103 = .ok (.bipush 12, 2) := by decide +kernel
theorem dX11_inserts_105 : decode cX11_inserts 105 = .ok (.iload_n 1, 1) := by decide +kernel
theorem dX11_inserts_106 : decode cX11_inserts 106 = .ok (.imul, 1) := by decide +kernel
theorem dX11_inserts_107 : decode cX11_inserts 107 = .ok (.iload 7, 2) := by decide +kernel
theorem dX11_inserts_109 : decode cX11_inserts 109 = .ok (.iadd, 1) := by decide +kernel
theorem dX11_inserts_110 : decode cX11_inserts 110 = .ok (.istore 8, 2) := by decide +kernel
theorem dX11_inserts_112 : decode cX11_inserts 112 = .ok (.aload_n 0, 1) := by decide +kernel
theorem dX11_inserts_113 : decode cX11_inserts 113 = .ok (.getfield 13, 3) := by decide +kernel
theorem dX11_inserts_116 : decode cX11_inserts 116 = .ok (.iload 8, 2) := by decide +kernel
theorem dX11_inserts_118 : decode cX11_inserts 118 = .ok (.iload_n 2, 1) := by decide +kernel
theorem dX11_inserts_119 : decode cX11_inserts 119 = .ok (.iastore, 1) := by decide +kernel
theorem dX11_inserts_120 : decode cX11_inserts 120 = .ok (.aload_n 0, 1) := by decide +kernel
theorem dX11_inserts_121 : decode cX11_inserts 121 = .ok (.getfield 16, 3) := by decide +kernel
theorem dX11_inserts_124 : decode cX11_inserts 124 = .ok (.iconst 4, 1) := by decide +kernel
theorem dX11_inserts_125 : decode cX11_inserts 125 = .ok (.iload 8, 2) := by decide +kernel
theorem dX11_inserts_127 : decode cX11_inserts 127 = .ok (.imul, 1) := by decide +kernel
theorem dX11_inserts_128 : decode cX11_inserts 128 = .ok (.iload_n 3, 1) := by decide +kernel
theorem dX11_inserts_129 : decode cX11_inserts 129 = .ok (.iastore, 1) := by decide +kernel
theorem dX11_inserts_130 : decode cX11_inserts 130 = .ok (.aload_n 0, 1) := by decide +kernel
theorem dX11_inserts_131 : decode cX11_inserts 131 = .ok (.getfield 16, 3) := by decide +kernel
theorem dX11_inserts_134 : decode cX11_inserts 134 = .ok (.iconst 4, 1) := by decide +kernel
theorem dX11_inserts_135 : decode cX11_inserts 135 = .ok (.iload 8, 2) := by decide +kernel
theorem dX11_inserts_137 : decode cX11_inserts 137 = .ok (.imul, 1) := by decide +kernel
theorem dX11_inserts_138 : decode cX11_inserts 138 = .ok (.iconst 1, 1) := by decide +kernel
theorem dX11_inserts_139 : decode cX11_inserts 139 = .ok (.iadd, 1) := by decide +kernel
theorem dX11_inserts_140 : decode cX11_inserts 140 = .ok (.iload 4, 2) := by decide +kernel
theorem dX11_inserts_142 : decode cX11_inserts 142 = .ok (.iastore, 1) := by decide +kernel
theorem dX11_inserts_143 : decode cX11_inserts 143 = .ok (.aload_n 0, 1) := by decide +kernel
theorem dX11_inserts_144 : decode cX11_inserts 144 = .ok (.getfield 16, 3) := by decide +kernel
theorem dX11_inserts_147 : decode cX11_inserts 147 = .ok (.iconst 4, 1) := by decide +kernel
theorem dX11_inserts_148 : decode cX11_inserts 148 = .ok (.iload 8, 2) := by decide +kernel
theorem dX11_inserts_150 : decode cX11_inserts 150 = .ok (.imul, 1) := by decide +kernel
theorem dX11_inserts_151 : decode cX11_inserts 151 = .ok (.iconst 2, 1) := by decide +kernel
theorem dX11_inserts_152 : decode cX11_inserts 152 = .ok (.iadd, 1) := by decide +kernel
theorem dX11_inserts_153 : decode cX11_inserts 153 = .ok (.iload 5, 2) := by decide +kernel
theorem dX11_inserts_155 : decode cX11_inserts 155 = .ok (.iastore, 1) := by decide +kernel
theorem dX11_inserts_156 : decode cX11_inserts 156 = .ok (.aload_n 0, 1) := by decide +kernel
theorem dX11_inserts_157 : decode cX11_inserts 157 = .ok (.getfield 16, 3) := by decide +kernel
theorem dX11_inserts_160 : decode cX11_inserts 160 = .ok (.iconst 4, 1) := by decide +kernel
theorem dX11_inserts_161 : decode cX11_inserts 161 = .ok (.iload 8, 2) := by decide +kernel
theorem dX11_inserts_163 : decode cX11_inserts 163 = .ok (.imul, 1) := by decide +kernel
theorem dX11_inserts_164 : decode cX11_inserts 164 = .ok (.iconst 3, 1) := by decide +kernel
theorem dX11_inserts_165 : decode cX11_inserts 165 = .ok (.iadd, 1) := by decide +kernel
theorem dX11_inserts_166 : decode cX11_inserts 166 = .ok (.iload 6, 2) := by decide +kernel
theorem dX11_inserts_168 : decode cX11_inserts 168 = .ok (.iastore, 1) := by decide +kernel
theorem dX11_inserts_169 : decode cX11_inserts 169 = .ok (.aload_n 0, 1) := by decide +kernel
theorem dX11_inserts_170 : decode cX11_inserts 170 = .ok (.getfield 7, 3) := by decide +kernel
theorem dX11_inserts_173 : decode cX11_inserts 173 = .ok (.iload_n 1, 1) := by decide +kernel
theorem dX11_inserts_174 : decode cX11_inserts 174 = .ok (.dup2, 1) := by decide +kernel
theorem dX11_inserts_175 : decode cX11_inserts 175 = .ok (.iaload, 1) := by decide +kernel
theorem dX11_inserts_176 : decode cX11_inserts 176 = .ok (.iconst 1, 1) := by decide +kernel
theorem dX11_inserts_177 : decode cX11_inserts 177 = .ok (.iadd, 1) := by decide +kernel
theorem dX11_inserts_178 : decode cX11_inserts 178 = .ok (.iastore, 1) := by decide +kernel
theorem dX11_inserts_179 : decode cX11_inserts 179 = .ok (.aload_n 0, 1) := by decide +kernel
theorem dX11_inserts_180 : decode cX11_inserts 180 = .ok (.iload_n 1, 1) := by decide +kernel
theorem dX11_inserts_181 : decode cX11_inserts 181 = .ok (.invokevirtual 248, 3) := by decide +kernel
theorem dX11_inserts_184 : decode cX11_inserts 184 = .ok (.return_, 1) := by decide +kernel
theorem dX11_takesOut_0 : decode cX11_takesOut 0 = .ok (.aload_n 0, 1) := by decide +kernel
theorem dX11_takesOut_1 : decode cX11_takesOut 1 = .ok (.iload_n 1, 1) := by decide +kernel
theorem dX11_takesOut_2 : decode cX11_takesOut 2 = .ok (.iload_n 2, 1) := by decide +kernel
theorem dX11_takesOut_3 : decode cX11_takesOut 3 = .ok (.invokevirtual 252, 3) := by decide +kernel
theorem dX11_takesOut_6 : decode cX11_takesOut 6 = .ok (.istore_n 3, 1) := by decide +kernel
theorem dX11_takesOut_7 : decode cX11_takesOut 7 = .ok (.aload_n 0, 1) := by decide +kernel
theorem dX11_takesOut_8 : decode cX11_takesOut 8 = .ok (.getfield 7, 3) := by decide +kernel
theorem dX11_takesOut_11 : decode cX11_takesOut 11 = .ok (.iload_n 1, 1) := by decide +kernel
theorem dX11_takesOut_12 : decode cX11_takesOut 12 = .ok (.dup2, 1) := by decide +kernel
theorem dX11_takesOut_13 : decode cX11_takesOut 13 = .ok (.iaload, 1) := by decide +kernel
theorem dX11_takesOut_14 : decode cX11_takesOut 14 = .ok (.iconst 1, 1) := by decide +kernel
theorem dX11_takesOut_15 : decode cX11_takesOut 15 = .ok (.isub, 1) := by decide +kernel
theorem dX11_takesOut_16 : decode cX11_takesOut 16 = .ok (.iastore, 1) := by decide +kernel
theorem dX11_takesOut_17 : decode cX11_takesOut 17 = .ok (.iload_n 3, 1) := by decide +kernel
theorem dX11_takesOut_18 : decode cX11_takesOut 18 = .ok (.istore 4, 2) := by decide +kernel
theorem dX11_takesOut_20 : decode cX11_takesOut 20 = .ok (.iload 4, 2) := by decide +kernel
theorem dX11_takesOut_22 : decode cX11_takesOut 22 = .ok (.aload_n 0, 1) := by decide +kernel
theorem dX11_takesOut_23 : decode cX11_takesOut 23 = .ok (.getfield 7, 3) := by decide +kernel
theorem dX11_takesOut_26 : decode cX11_takesOut 26 = .ok (.iload_n 1, 1) := by decide +kernel
theorem dX11_takesOut_27 : decode cX11_takesOut 27 = .ok (.iaload, 1) := by decide +kernel
theorem dX11_takesOut_28 : decode cX11_takesOut 28 = .ok (.if_icmp .ge 75, 3) := by decide +kernel
theorem dX11_takesOut_31 : decode cX11_takesOut 31 = .ok (.bipush 12, 2) := by decide +kernel
theorem dX11_takesOut_33 : decode cX11_takesOut 33 = .ok (.iload_n 1, 1) := by decide +kernel
theorem dX11_takesOut_34 : decode cX11_takesOut 34 = .ok (.imul, 1) := by decide +kernel
theorem dX11_takesOut_35 : decode cX11_takesOut 35 = .ok (.iload 4, 2) := by decide +kernel
theorem dX11_takesOut_37 : decode cX11_takesOut 37 = .ok (.iadd, 1) := by decide +kernel
theorem dX11_takesOut_38 : decode cX11_takesOut 38 = .ok (.istore 5, 2) := by decide +kernel
theorem dX11_takesOut_40 : decode cX11_takesOut 40 = .ok (.aload_n 0, 1) := by decide +kernel
theorem dX11_takesOut_41 : decode cX11_takesOut 41 = .ok (.getfield 13, 3) := by decide +kernel
theorem dX11_takesOut_44 : decode cX11_takesOut 44 = .ok (.iload 5, 2) := by decide +kernel
theorem dX11_takesOut_46 : decode cX11_takesOut 46 = .ok (.aload_n 0, 1) := by decide +kernel
theorem dX11_takesOut_47 : decode cX11_takesOut 47 = .ok (.getfield 13, 3) := by decide +kernel
theorem dX11_takesOut_50 : decode cX11_takesOut 50 = .ok (.iload 5, 2) := by decide +kernel
theorem dX11_takesOut_52 : decode cX11_takesOut 52 = .ok (.iconst 1, 1) := by decide +kernel
theorem dX11_takesOut_53 : decode cX11_takesOut 53 = .ok (.iadd, 1) := by decide +kernel
theorem dX11_takesOut_54 : decode cX11_takesOut 54 = .ok (.iaload, 1) := by decide +kernel
theorem dX11_takesOut_55 : decode cX11_takesOut 55 = .ok (.iastore, 1) := by decide +kernel
theorem dX11_takesOut_56 : decode cX11_takesOut 56 = .ok (.iconst 0, 1) := by decide +kernel
theorem dX11_takesOut_57 : decode cX11_takesOut 57 = .ok (.istore 6, 2) := by decide +kernel
theorem dX11_takesOut_59 : decode cX11_takesOut 59 = .ok (.iload 6, 2) := by decide +kernel
theorem dX11_takesOut_61 : decode cX11_takesOut 61 = .ok (.iconst 4, 1) := by decide +kernel
theorem dX11_takesOut_62 : decode cX11_takesOut 62 = .ok (.if_icmp .ge 35, 3) := by decide +kernel
theorem dX11_takesOut_65 : decode cX11_takesOut 65 = .ok (.aload_n 0, 1) := by decide +kernel
theorem dX11_takesOut_66 : decode cX11_takesOut 66 = .ok (.getfield 16, 3) := by decide +kernel
theorem dX11_takesOut_69 : decode cX11_takesOut 69 = .ok (.iconst 4, 1) := by decide +kernel
theorem dX11_takesOut_70 : decode cX11_takesOut 70 = .ok (.iload 5, 2) := by decide +kernel
theorem dX11_takesOut_72 : decode cX11_takesOut 72 = .ok (.imul, 1) := by decide +kernel
theorem dX11_takesOut_73 : decode cX11_takesOut 73 = .ok (.iload 6, 2) := by decide +kernel
theorem dX11_takesOut_75 : decode cX11_takesOut 75 = .ok (.iadd, 1) := by decide +kernel
theorem dX11_takesOut_76 : decode cX11_takesOut 76 = .ok (.aload_n 0, 1) := by decide +kernel
theorem dX11_takesOut_77 : decode cX11_takesOut 77 = .ok (.getfield 16, 3) := by decide +kernel
theorem dX11_takesOut_80 : decode cX11_takesOut 80 = .ok (.iconst 4, 1) := by decide +kernel
theorem dX11_takesOut_81 : decode cX11_takesOut 81 = .ok (.iload 5, 2) := by decide +kernel
theorem dX11_takesOut_83 : decode cX11_takesOut 83 = .ok (.iconst 1, 1) := by decide +kernel
theorem dX11_takesOut_84 : decode cX11_takesOut 84 = .ok (.iadd, 1) := by decide +kernel
theorem dX11_takesOut_85 : decode cX11_takesOut 85 = .ok (.imul, 1) := by decide +kernel
theorem dX11_takesOut_86 : decode cX11_takesOut 86 = .ok (.iload 6, 2) := by decide +kernel
theorem dX11_takesOut_88 : decode cX11_takesOut 88 = .ok (.iadd, 1) := by decide +kernel
theorem dX11_takesOut_89 : decode cX11_takesOut 89 = .ok (.iaload, 1) := by decide +kernel
theorem dX11_takesOut_90 : decode cX11_takesOut 90 = .ok (.iastore, 1) := by decide +kernel
theorem dX11_takesOut_91 : decode cX11_takesOut 91 = .ok (.iinc 6 1, 3) := by decide +kernel
theorem dX11_takesOut_94 : decode cX11_takesOut 94 = .ok (.goto (-35), 3) := by decide +kernel
theorem dX11_takesOut_97 : decode cX11_takesOut 97 = .ok (.iinc 4 1, 3) := by decide +kernel
theorem dX11_takesOut_100 : decode cX11_takesOut 100 = .ok (.goto (-80), 3) := by decide +kernel
theorem dX11_takesOut_103 : decode cX11_takesOut 103 = .ok (.aload_n 0, 1) := by decide +kernel
theorem dX11_takesOut_104 : decode cX11_takesOut 104 = .ok (.iload_n 1, 1) := by decide +kernel
theorem dX11_takesOut_105 : decode cX11_takesOut 105 = .ok (.invokevirtual 248, 3) := by decide +kernel
theorem dX11_takesOut_108 : decode cX11_takesOut 108 = .ok (.return_, 1) := by decide +kernel
theorem dX11_kept_0 : decode cX11_kept 0 = .ok (.iload_n 1, 1) := by decide +kernel
theorem dX11_kept_1 : decode cX11_kept 1 = .ok (.invokestatic 220, 3) := by decide +kernel
theorem dX11_kept_4 : decode cX11_kept 4 = .ok (.iconst 1, 1) := by decide +kernel
theorem dX11_kept_5 : decode cX11_kept 5 = .ok (.if_icmp .ne 15, 3) := by decide +kernel
theorem dX11_kept_8 : decode cX11_kept 8 = .ok (.iload_n 2, 1) := by decide +kernel
theorem dX11_kept_9 : decode cX11_kept 9 = .ok (.iconst 1, 1) := by decide +kernel
theorem dX11_kept_10 : decode cX11_kept 10 = .ok (.if_icmp .ne 10, 3) := by decide +kernel
theorem dX11_kept_13 : decode cX11_kept 13 = .ok (.iload_n 3, 1) := by decide +kernel
theorem dX11_kept_14 : decode cX11_kept 14 = .ok (.invokestatic 228, 3) := by decide +kernel
theorem dX11_kept_17 : decode cX11_kept 17 = .ok (.ifCond .ne 5, 3) := by decide +kernel
theorem dX11_kept_20 : decode cX11_kept 20 = .ok (.iload_n 3, 1) := by decide +kernel
theorem dX11_kept_21 : decode cX11_kept 21 = .ok (.ireturn, 1) := by decide +kernel
theorem dX11_kept_22 : decode cX11_kept 22 = .ok (.iload_n 3, 1) := by decide +kernel
theorem dX11_kept_23 : decode cX11_kept 23 = .ok (.ifCond .ge 7, 3) := by decide +kernel
theorem dX11_kept_26 : decode cX11_kept 26 = .ok (.iconst 0, 1) := by decide +kernel
theorem dX11_kept_27 : decode cX11_kept 27 = .ok (.goto 15, 3) := by decide +kernel
theorem dX11_kept_30 : decode cX11_kept 30 = .ok (.iload_n 3, 1) := by decide +kernel
theorem dX11_kept_31 : decode cX11_kept 31 = .ok (.bipush 99, 2) := by decide +kernel
theorem dX11_kept_33 : decode cX11_kept 33 = .ok (.if_icmp .le 8, 3) := by decide +kernel
theorem dX11_kept_36 : decode cX11_kept 36 = .ok (.bipush 99, 2) := by decide +kernel
theorem dX11_kept_38 : decode cX11_kept 38 = .ok (.goto 4, 3) := by decide +kernel
theorem dX11_kept_41 : decode cX11_kept 41 = .ok (.iload_n 3, 1) := by decide +kernel
theorem dX11_kept_42 : decode cX11_kept 42 = .ok (.istore 4, 2) := by decide +kernel
theorem dX11_kept_44 : decode cX11_kept 44 = .ok (.aload_n 0, 1) := by decide +kernel
theorem dX11_kept_45 : decode cX11_kept 45 = .ok (.dup, 1) := by decide +kernel
theorem dX11_kept_46 : decode cX11_kept 46 = .ok (.getfield 256, 3) := by decide +kernel
theorem dX11_kept_49 : decode cX11_kept 49 = .ok (.iload 4, 2) := by decide +kernel
theorem dX11_kept_51 : decode cX11_kept 51 = .ok (.iload_n 3, 1) := by decide +kernel
theorem dX11_kept_52 : decode cX11_kept 52 = .ok (.if_icmp .ne 7, 3) := by decide +kernel
theorem dX11_kept_55 : decode cX11_kept 55 = .ok (.iconst 0, 1) := by decide +kernel
theorem dX11_kept_56 : decode cX11_kept 56 = .ok (.goto 4, 3) := by decide +kernel
theorem dX11_kept_59 : decode cX11_kept 59 = .ok (.iconst 1, 1) := by decide +kernel
theorem dX11_kept_60 : decode cX11_kept 60 = .ok (.iadd, 1) := by decide +kernel
theorem dX11_kept_61 : decode cX11_kept 61 = .ok (.putfield 256, 3) := by decide +kernel
theorem dX11_kept_64 : decode cX11_kept 64 = .ok (.iload 4, 2) := by decide +kernel
theorem dX11_kept_66 : decode cX11_kept 66 = .ok (.ireturn, 1) := by decide +kernel
theorem dX11_canAdd_0 : decode cX11_canAdd 0 = .ok (.iload_n 1, 1) := by decide +kernel
theorem dX11_canAdd_1 : decode cX11_canAdd 1 = .ok (.iconst 0, 1) := by decide +kernel
theorem dX11_canAdd_2 : decode cX11_canAdd 2 = .ok (.iload_n 2, 1) := by decide +kernel
theorem dX11_canAdd_3 : decode cX11_canAdd 3 = .ok (.invokestatic 259, 3) := by decide +kernel
theorem dX11_canAdd_6 : decode cX11_canAdd 6 = .ok (.ifCond .eq 32, 3) := by decide +kernel
theorem dX11_canAdd_9 : decode cX11_canAdd 9 = .ok (.iload_n 1, 1) := by decide +kernel
theorem dX11_canAdd_10 : decode cX11_canAdd 10 = .ok (.iconst 1, 1) := by decide +kernel
theorem dX11_canAdd_11 : decode cX11_canAdd 11 = .ok (.iload_n 3, 1) := by decide +kernel
theorem dX11_canAdd_12 : decode cX11_canAdd 12 = .ok (.invokestatic 259, 3) := by decide +kernel
theorem dX11_canAdd_15 : decode cX11_canAdd 15 = .ok (.ifCond .eq 23, 3) := by decide +kernel
theorem dX11_canAdd_18 : decode cX11_canAdd 18 = .ok (.iload_n 1, 1) := by decide +kernel
theorem dX11_canAdd_19 : decode cX11_canAdd 19 = .ok (.iconst 2, 1) := by decide +kernel
theorem dX11_canAdd_20 : decode cX11_canAdd 20 = .ok (.iload 4, 2) := by decide +kernel
theorem dX11_canAdd_22 : decode cX11_canAdd 22 = .ok (.invokestatic 259, 3) := by decide +kernel
theorem dX11_canAdd_25 : decode cX11_canAdd 25 = .ok (.ifCond .eq 13, 3) := by decide +kernel
theorem dX11_canAdd_28 : decode cX11_canAdd 28 = .ok (.iload_n 1, 1) := by decide +kernel
theorem dX11_canAdd_29 : decode cX11_canAdd 29 = .ok (.iconst 3, 1) := by decide +kernel
theorem dX11_canAdd_30 : decode cX11_canAdd 30 = .ok (.iload 5, 2) := by decide +kernel
theorem dX11_canAdd_32 : decode cX11_canAdd 32 = .ok (.invokestatic 259, 3) := by decide +kernel
theorem dX11_canAdd_35 : decode cX11_canAdd 35 = .ok (.ifCond .ne 5, 3) := by decide +kernel
theorem dX11_canAdd_38 : decode cX11_canAdd 38 = .ok (.iconst 2, 1) := by decide +kernel
theorem dX11_canAdd_39 : decode cX11_canAdd 39 = .ok (.ireturn, 1) := by decide +kernel
theorem dX11_canAdd_40 : decode cX11_canAdd 40 = .ok (.aload_n 0, 1) := by decide +kernel
theorem dX11_canAdd_41 : decode cX11_canAdd 41 = .ok (.getfield 7, 3) := by decide +kernel
theorem dX11_canAdd_44 : decode cX11_canAdd 44 = .ok (.iload_n 1, 1) := by decide +kernel
theorem dX11_canAdd_45 : decode cX11_canAdd 45 = .ok (.iaload, 1) := by decide +kernel
theorem dX11_canAdd_46 : decode cX11_canAdd 46 = .ok (.bipush 12, 2) := by decide +kernel
theorem dX11_canAdd_48 : decode cX11_canAdd 48 = .ok (.if_icmp .eq 34, 3) := by decide +kernel
theorem dX11_canAdd_51 : decode cX11_canAdd 51 = .ok (.iload_n 1, 1) := by decide +kernel
theorem dX11_canAdd_52 : decode cX11_canAdd 52 = .ok (.iconst 1, 1) := by decide +kernel
theorem dX11_canAdd_53 : decode cX11_canAdd 53 = .ok (.if_icmp .le 13, 3) := by decide +kernel
theorem dX11_canAdd_56 : decode cX11_canAdd 56 = .ok (.aload_n 0, 1) := by decide +kernel
theorem dX11_canAdd_57 : decode cX11_canAdd 57 = .ok (.iload_n 1, 1) := by decide +kernel
theorem dX11_canAdd_58 : decode cX11_canAdd 58 = .ok (.iload_n 2, 1) := by decide +kernel
theorem dX11_canAdd_59 : decode cX11_canAdd 59 = .ok (.invokevirtual 252, 3) := by decide +kernel
theorem dX11_canAdd_62 : decode cX11_canAdd 62 = .ok (.iconst (-1), 1) := by decide +kernel
theorem dX11_canAdd_63 : decode cX11_canAdd 63 = .ok (.if_icmp .ne 19, 3) := by decide +kernel
theorem dX11_canAdd_66 : decode cX11_canAdd 66 = .ok (.iload_n 1, 1) := by decide +kernel
theorem dX11_canAdd_67 : decode cX11_canAdd 67 = .ok (.iconst 2, 1) := by decide +kernel
theorem dX11_canAdd_68 : decode cX11_canAdd 68 = .ok (.if_icmp .ge 18, 3) := by decide +kernel
theorem dX11_canAdd_71 : decode cX11_canAdd 71 = .ok (.aload_n 0, 1) := by decide +kernel
theorem dX11_canAdd_72 : decode cX11_canAdd 72 = .ok (.getfield 19, 3) := by decide +kernel
theorem dX11_canAdd_75 : decode cX11_canAdd 75 = .ok (.iload_n 1, 1) := by decide +kernel
theorem dX11_canAdd_76 : decode cX11_canAdd 76 = .ok (.iaload, 1) := by decide +kernel
theorem dX11_canAdd_77 : decode cX11_canAdd 77 = .ok (.bipush 60, 2) := by decide +kernel
theorem dX11_canAdd_79 : decode cX11_canAdd 79 = .ok (.if_icmp .ne 7, 3) := by decide +kernel
theorem dX11_canAdd_82 : decode cX11_canAdd 82 = .ok (.iconst 3, 1) := by decide +kernel
theorem dX11_canAdd_83 : decode cX11_canAdd 83 = .ok (.goto 4, 3) := by decide +kernel
theorem dX11_canAdd_86 : decode cX11_canAdd 86 = .ok (.iconst 0, 1) := by decide +kernel
theorem dX11_canAdd_87 : decode cX11_canAdd 87 = .ok (.ireturn, 1) := by decide +kernel
theorem dX11_adds_0 : decode cX11_adds 0 = .ok (.iload_n 1, 1) := by decide +kernel
theorem dX11_adds_1 : decode cX11_adds 1 = .ok (.iconst 1, 1) := by decide +kernel
theorem dX11_adds_2 : decode cX11_adds 2 = .ok (.if_icmp .le 7, 3) := by decide +kernel
theorem dX11_adds_5 : decode cX11_adds 5 = .ok (.iload_n 2, 1) := by decide +kernel
theorem dX11_adds_6 : decode cX11_adds 6 = .ok (.goto 9, 3) := by decide +kernel
theorem dX11_adds_9 : decode cX11_adds 9 = .ok (.aload_n 0, 1) := by decide +kernel
theorem dX11_adds_10 : decode cX11_adds 10 = .ok (.getfield 19, 3) := by decide +kernel
theorem dX11_adds_13 : decode cX11_adds 13 = .ok (.iload_n 1, 1) := by decide +kernel
theorem dX11_adds_14 : decode cX11_adds 14 = .ok (.iaload, 1) := by decide +kernel
theorem dX11_adds_15 : decode cX11_adds 15 = .ok (.istore 6, 2) := by decide +kernel
theorem dX11_adds_17 : decode cX11_adds 17 = .ok (.aload_n 0, 1) := by decide +kernel
theorem dX11_adds_18 : decode cX11_adds 18 = .ok (.getfield 19, 3) := by decide +kernel
theorem dX11_adds_21 : decode cX11_adds 21 = .ok (.iload_n 1, 1) := by decide +kernel
theorem dX11_adds_22 : decode cX11_adds 22 = .ok (.dup2, 1) := by decide +kernel
theorem dX11_adds_23 : decode cX11_adds 23 = .ok (.iaload, 1) := by decide +kernel
theorem dX11_adds_24 : decode cX11_adds 24 = .ok (.iload_n 1, 1) := by decide +kernel
theorem dX11_adds_25 : decode cX11_adds 25 = .ok (.iconst 1, 1) := by decide +kernel
theorem dX11_adds_26 : decode cX11_adds 26 = .ok (.if_icmp .le 7, 3) := by decide +kernel
theorem dX11_adds_29 : decode cX11_adds 29 = .ok (.iconst 0, 1) := by decide +kernel
theorem dX11_adds_30 : decode cX11_adds 30 = .ok (.goto 4, 3) := by decide +kernel
theorem dX11_adds_33 : decode cX11_adds 33 = .ok (.iconst 1, 1) := by decide +kernel
theorem dX11_adds_34 : decode cX11_adds 34 = .ok (.iadd, 1) := by decide +kernel
theorem dX11_adds_35 : decode cX11_adds 35 = .ok (.iastore, 1) := by decide +kernel
theorem dX11_adds_36 : decode cX11_adds 36 = .ok (.aload_n 0, 1) := by decide +kernel
theorem dX11_adds_37 : decode cX11_adds 37 = .ok (.iload_n 1, 1) := by decide +kernel
theorem dX11_adds_38 : decode cX11_adds 38 = .ok (.iload 6, 2) := by decide +kernel
theorem dX11_adds_40 : decode cX11_adds 40 = .ok (.iload_n 2, 1) := by decide +kernel
theorem dX11_adds_41 : decode cX11_adds 41 = .ok (.aload_n 0, 1) := by decide +kernel
theorem dX11_adds_42 : decode cX11_adds 42 = .ok (.iload_n 1, 1) := by decide +kernel
theorem dX11_adds_43 : decode cX11_adds 43 = .ok (.iconst 1, 1) := by decide +kernel
theorem dX11_adds_44 : decode cX11_adds 44 = .ok (.iload_n 3, 1) := by decide +kernel
theorem dX11_adds_45 : decode cX11_adds 45 = .ok (.invokevirtual 262, 3) := by decide +kernel
theorem dX11_adds_48 : decode cX11_adds 48 = .ok (.iload 4, 2) := by decide +kernel
theorem dX11_adds_50 : decode cX11_adds 50 = .ok (.iload 5, 2) := by decide +kernel
theorem dX11_adds_52 : decode cX11_adds 52 = .ok (.invokevirtual 266, 3) := by decide +kernel
theorem dX11_adds_55 : decode cX11_adds 55 = .ok (.iload 6, 2) := by decide +kernel
theorem dX11_adds_57 : decode cX11_adds 57 = .ok (.ireturn, 1) := by decide +kernel
theorem dX11_add_0 : decode cX11_add 0 = .ok (.aload_n 0, 1) := by decide +kernel
theorem dX11_add_1 : decode cX11_add 1 = .ok (.iload_n 1, 1) := by decide +kernel
theorem dX11_add_2 : decode cX11_add 2 = .ok (.invokestatic 270, 3) := by decide +kernel
theorem dX11_add_5 : decode cX11_add 5 = .ok (.ifCond .ne 7, 3) := by decide +kernel
theorem dX11_add_8 : decode cX11_add 8 = .ok (.iconst 1, 1) := by decide +kernel
theorem dX11_add_9 : decode cX11_add 9 = .ok (.goto 14, 3) := by decide +kernel
theorem dX11_add_12 : decode cX11_add 12 = .ok (.aload_n 0, 1) := by decide +kernel
theorem dX11_add_13 : decode cX11_add 13 = .ok (.iload_n 1, 1) := by decide +kernel
theorem dX11_add_14 : decode cX11_add 14 = .ok (.iload_n 2, 1) := by decide +kernel
theorem dX11_add_15 : decode cX11_add 15 = .ok (.iload_n 3, 1) := by decide +kernel
theorem dX11_add_16 : decode cX11_add 16 = .ok (.iload 4, 2) := by decide +kernel
theorem dX11_add_18 : decode cX11_add 18 = .ok (.iload 5, 2) := by decide +kernel
theorem dX11_add_20 : decode cX11_add 20 = .ok (.invokevirtual 273, 3) := by decide +kernel
theorem dX11_add_23 : decode cX11_add 23 = .ok (.putfield 213, 3) := by decide +kernel
theorem dX11_add_26 : decode cX11_add 26 = .ok (.aload_n 0, 1) := by decide +kernel
theorem dX11_add_27 : decode cX11_add 27 = .ok (.getfield 213, 3) := by decide +kernel
theorem dX11_add_30 : decode cX11_add 30 = .ok (.ifCond .le 7, 3) := by decide +kernel
theorem dX11_add_33 : decode cX11_add 33 = .ok (.iconst 0, 1) := by decide +kernel
theorem dX11_add_34 : decode cX11_add 34 = .ok (.goto 14, 3) := by decide +kernel
theorem dX11_add_37 : decode cX11_add 37 = .ok (.aload_n 0, 1) := by decide +kernel
theorem dX11_add_38 : decode cX11_add 38 = .ok (.iload_n 1, 1) := by decide +kernel
theorem dX11_add_39 : decode cX11_add 39 = .ok (.iload_n 2, 1) := by decide +kernel
theorem dX11_add_40 : decode cX11_add 40 = .ok (.iload_n 3, 1) := by decide +kernel
theorem dX11_add_41 : decode cX11_add 41 = .ok (.iload 4, 2) := by decide +kernel
theorem dX11_add_43 : decode cX11_add 43 = .ok (.iload 5, 2) := by decide +kernel
theorem dX11_add_45 : decode cX11_add 45 = .ok (.invokevirtual 277, 3) := by decide +kernel
theorem dX11_add_48 : decode cX11_add 48 = .ok (.ireturn, 1) := by decide +kernel
theorem dX11_canChange_0 : decode cX11_canChange 0 = .ok (.aload_n 0, 1) := by decide +kernel
theorem dX11_canChange_1 : decode cX11_canChange 1 = .ok (.iload_n 1, 1) := by decide +kernel
theorem dX11_canChange_2 : decode cX11_canChange 2 = .ok (.iload_n 2, 1) := by decide +kernel
theorem dX11_canChange_3 : decode cX11_canChange 3 = .ok (.invokevirtual 252, 3) := by decide +kernel
theorem dX11_canChange_6 : decode cX11_canChange 6 = .ok (.iconst (-1), 1) := by decide +kernel
theorem dX11_canChange_7 : decode cX11_canChange 7 = .ok (.if_icmp .eq 11, 3) := by decide +kernel
theorem dX11_canChange_10 : decode cX11_canChange 10 = .ok (.iload_n 1, 1) := by decide +kernel
theorem dX11_canChange_11 : decode cX11_canChange 11 = .ok (.iload_n 3, 1) := by decide +kernel
theorem dX11_canChange_12 : decode cX11_canChange 12 = .ok (.invokestatic 224, 3) := by decide +kernel
theorem dX11_canChange_15 : decode cX11_canChange 15 = .ok (.ifCond .ne 5, 3) := by decide +kernel
theorem dX11_canChange_18 : decode cX11_canChange 18 = .ok (.iconst 1, 1) := by decide +kernel
theorem dX11_canChange_19 : decode cX11_canChange 19 = .ok (.ireturn, 1) := by decide +kernel
theorem dX11_canChange_20 : decode cX11_canChange 20 = .ok (.iload_n 1, 1) := by decide +kernel
theorem dX11_canChange_21 : decode cX11_canChange 21 = .ok (.iconst 1, 1) := by decide +kernel
theorem dX11_canChange_22 : decode cX11_canChange 22 = .ok (.if_icmp .le 7, 3) := by decide +kernel
theorem dX11_canChange_25 : decode cX11_canChange 25 = .ok (.iload_n 3, 1) := by decide +kernel
theorem dX11_canChange_26 : decode cX11_canChange 26 = .ok (.ifCond .eq 13, 3) := by decide +kernel
theorem dX11_canChange_29 : decode cX11_canChange 29 = .ok (.iload_n 1, 1) := by decide +kernel
theorem dX11_canChange_30 : decode cX11_canChange 30 = .ok (.iload_n 3, 1) := by decide +kernel
theorem dX11_canChange_31 : decode cX11_canChange 31 = .ok (.iload 4, 2) := by decide +kernel
theorem dX11_canChange_33 : decode cX11_canChange 33 = .ok (.invokestatic 259, 3) := by decide +kernel
theorem dX11_canChange_36 : decode cX11_canChange 36 = .ok (.ifCond .ne 7, 3) := by decide +kernel
theorem dX11_canChange_39 : decode cX11_canChange 39 = .ok (.iconst 2, 1) := by decide +kernel
theorem dX11_canChange_40 : decode cX11_canChange 40 = .ok (.goto 4, 3) := by decide +kernel
theorem dX11_canChange_43 : decode cX11_canChange 43 = .ok (.iconst 0, 1) := by decide +kernel
theorem dX11_canChange_44 : decode cX11_canChange 44 = .ok (.ireturn, 1) := by decide +kernel
theorem dX11_puts_0 : decode cX11_puts 0 = .ok (.iconst 4, 1) := by decide +kernel
theorem dX11_puts_1 : decode cX11_puts 1 = .ok (.bipush 12, 2) := by decide +kernel
theorem dX11_puts_3 : decode cX11_puts 3 = .ok (.iload_n 1, 1) := by decide +kernel
theorem dX11_puts_4 : decode cX11_puts 4 = .ok (.imul, 1) := by decide +kernel
theorem dX11_puts_5 : decode cX11_puts 5 = .ok (.aload_n 0, 1) := by decide +kernel
theorem dX11_puts_6 : decode cX11_puts 6 = .ok (.iload_n 1, 1) := by decide +kernel
theorem dX11_puts_7 : decode cX11_puts 7 = .ok (.iload_n 2, 1) := by decide +kernel
theorem dX11_puts_8 : decode cX11_puts 8 = .ok (.invokevirtual 252, 3) := by decide +kernel
theorem dX11_puts_11 : decode cX11_puts 11 = .ok (.iadd, 1) := by decide +kernel
theorem dX11_puts_12 : decode cX11_puts 12 = .ok (.imul, 1) := by decide +kernel
theorem dX11_puts_13 : decode cX11_puts 13 = .ok (.iload_n 3, 1) := by decide +kernel
theorem dX11_puts_14 : decode cX11_puts 14 = .ok (.iadd, 1) := by decide +kernel
theorem dX11_puts_15 : decode cX11_puts 15 = .ok (.istore 5, 2) := by decide +kernel
theorem dX11_puts_17 : decode cX11_puts 17 = .ok (.aload_n 0, 1) := by decide +kernel
theorem dX11_puts_18 : decode cX11_puts 18 = .ok (.getfield 16, 3) := by decide +kernel
theorem dX11_puts_21 : decode cX11_puts 21 = .ok (.iload 5, 2) := by decide +kernel
theorem dX11_puts_23 : decode cX11_puts 23 = .ok (.iaload, 1) := by decide +kernel
theorem dX11_puts_24 : decode cX11_puts 24 = .ok (.istore 6, 2) := by decide +kernel
theorem dX11_puts_26 : decode cX11_puts 26 = .ok (.aload_n 0, 1) := by decide +kernel
theorem dX11_puts_27 : decode cX11_puts 27 = .ok (.getfield 16, 3) := by decide +kernel
theorem dX11_puts_30 : decode cX11_puts 30 = .ok (.iload 5, 2) := by decide +kernel
theorem dX11_puts_32 : decode cX11_puts 32 = .ok (.iload 4, 2) := by decide +kernel
theorem dX11_puts_34 : decode cX11_puts 34 = .ok (.iastore, 1) := by decide +kernel
theorem dX11_puts_35 : decode cX11_puts 35 = .ok (.aload_n 0, 1) := by decide +kernel
theorem dX11_puts_36 : decode cX11_puts 36 = .ok (.iload_n 1, 1) := by decide +kernel
theorem dX11_puts_37 : decode cX11_puts 37 = .ok (.invokevirtual 248, 3) := by decide +kernel
theorem dX11_puts_40 : decode cX11_puts 40 = .ok (.iload 6, 2) := by decide +kernel
theorem dX11_puts_42 : decode cX11_puts 42 = .ok (.ireturn, 1) := by decide +kernel
theorem dX11_change_0 : decode cX11_change 0 = .ok (.aload_n 0, 1) := by decide +kernel
theorem dX11_change_1 : decode cX11_change 1 = .ok (.iload_n 1, 1) := by decide +kernel
theorem dX11_change_2 : decode cX11_change 2 = .ok (.invokestatic 270, 3) := by decide +kernel
theorem dX11_change_5 : decode cX11_change 5 = .ok (.ifCond .ne 7, 3) := by decide +kernel
theorem dX11_change_8 : decode cX11_change 8 = .ok (.iconst 1, 1) := by decide +kernel
theorem dX11_change_9 : decode cX11_change 9 = .ok (.goto 12, 3) := by decide +kernel
theorem dX11_change_12 : decode cX11_change 12 = .ok (.aload_n 0, 1) := by decide +kernel
theorem dX11_change_13 : decode cX11_change 13 = .ok (.iload_n 1, 1) := by decide +kernel
theorem dX11_change_14 : decode cX11_change 14 = .ok (.iload_n 2, 1) := by decide +kernel
theorem dX11_change_15 : decode cX11_change 15 = .ok (.iload_n 3, 1) := by decide +kernel
theorem dX11_change_16 : decode cX11_change 16 = .ok (.iload 4, 2) := by decide +kernel
theorem dX11_change_18 : decode cX11_change 18 = .ok (.invokevirtual 280, 3) := by decide +kernel
theorem dX11_change_21 : decode cX11_change 21 = .ok (.putfield 213, 3) := by decide +kernel
theorem dX11_change_24 : decode cX11_change 24 = .ok (.aload_n 0, 1) := by decide +kernel
theorem dX11_change_25 : decode cX11_change 25 = .ok (.getfield 213, 3) := by decide +kernel
theorem dX11_change_28 : decode cX11_change 28 = .ok (.ifCond .le 7, 3) := by decide +kernel
theorem dX11_change_31 : decode cX11_change 31 = .ok (.iconst 0, 1) := by decide +kernel
theorem dX11_change_32 : decode cX11_change 32 = .ok (.goto 18, 3) := by decide +kernel
theorem dX11_change_35 : decode cX11_change 35 = .ok (.aload_n 0, 1) := by decide +kernel
theorem dX11_change_36 : decode cX11_change 36 = .ok (.iload_n 1, 1) := by decide +kernel
theorem dX11_change_37 : decode cX11_change 37 = .ok (.iload_n 2, 1) := by decide +kernel
theorem dX11_change_38 : decode cX11_change 38 = .ok (.iload_n 3, 1) := by decide +kernel
theorem dX11_change_39 : decode cX11_change 39 = .ok (.aload_n 0, 1) := by decide +kernel
theorem dX11_change_40 : decode cX11_change 40 = .ok (.iload_n 1, 1) := by decide +kernel
theorem dX11_change_41 : decode cX11_change 41 = .ok (.iload_n 3, 1) := by decide +kernel
theorem dX11_change_42 : decode cX11_change 42 = .ok (.iload 4, 2) := by decide +kernel
theorem dX11_change_44 : decode cX11_change 44 = .ok (.invokevirtual 262, 3) := by decide +kernel
theorem dX11_change_47 : decode cX11_change 47 = .ok (.invokevirtual 284, 3) := by decide +kernel
theorem dX11_change_50 : decode cX11_change 50 = .ok (.ireturn, 1) := by decide +kernel
theorem dX11_remove_0 : decode cX11_remove 0 = .ok (.aload_n 0, 1) := by decide +kernel
theorem dX11_remove_1 : decode cX11_remove 1 = .ok (.iload_n 1, 1) := by decide +kernel
theorem dX11_remove_2 : decode cX11_remove 2 = .ok (.invokestatic 270, 3) := by decide +kernel
theorem dX11_remove_5 : decode cX11_remove 5 = .ok (.ifCond .eq 13, 3) := by decide +kernel
theorem dX11_remove_8 : decode cX11_remove 8 = .ok (.aload_n 0, 1) := by decide +kernel
theorem dX11_remove_9 : decode cX11_remove 9 = .ok (.iload_n 1, 1) := by decide +kernel
theorem dX11_remove_10 : decode cX11_remove 10 = .ok (.iload_n 2, 1) := by decide +kernel
theorem dX11_remove_11 : decode cX11_remove 11 = .ok (.invokevirtual 252, 3) := by decide +kernel
theorem dX11_remove_14 : decode cX11_remove 14 = .ok (.iconst (-1), 1) := by decide +kernel
theorem dX11_remove_15 : decode cX11_remove 15 = .ok (.if_icmp .ne 7, 3) := by decide +kernel
theorem dX11_remove_18 : decode cX11_remove 18 = .ok (.iconst 1, 1) := by decide +kernel
theorem dX11_remove_19 : decode cX11_remove 19 = .ok (.goto 4, 3) := by decide +kernel
theorem dX11_remove_22 : decode cX11_remove 22 = .ok (.iconst 0, 1) := by decide +kernel
theorem dX11_remove_23 : decode cX11_remove 23 = .ok (.putfield 213, 3) := by decide +kernel
theorem dX11_remove_26 : decode cX11_remove 26 = .ok (.aload_n 0, 1) := by decide +kernel
theorem dX11_remove_27 : decode cX11_remove 27 = .ok (.getfield 213, 3) := by decide +kernel
theorem dX11_remove_30 : decode cX11_remove 30 = .ok (.ifCond .le 5, 3) := by decide +kernel
theorem dX11_remove_33 : decode cX11_remove 33 = .ok (.iconst 0, 1) := by decide +kernel
theorem dX11_remove_34 : decode cX11_remove 34 = .ok (.ireturn, 1) := by decide +kernel
theorem dX11_remove_35 : decode cX11_remove 35 = .ok (.aload_n 0, 1) := by decide +kernel
theorem dX11_remove_36 : decode cX11_remove 36 = .ok (.iload_n 1, 1) := by decide +kernel
theorem dX11_remove_37 : decode cX11_remove 37 = .ok (.iload_n 2, 1) := by decide +kernel
theorem dX11_remove_38 : decode cX11_remove 38 = .ok (.invokevirtual 287, 3) := by decide +kernel
theorem dX11_remove_41 : decode cX11_remove 41 = .ok (.aload_n 0, 1) := by decide +kernel
theorem dX11_remove_42 : decode cX11_remove 42 = .ok (.getfield 7, 3) := by decide +kernel
theorem dX11_remove_45 : decode cX11_remove 45 = .ok (.iload_n 1, 1) := by decide +kernel
theorem dX11_remove_46 : decode cX11_remove 46 = .ok (.iaload, 1) := by decide +kernel
theorem dX11_remove_47 : decode cX11_remove 47 = .ok (.ireturn, 1) := by decide +kernel
theorem dX11_count_0 : decode cX11_count 0 = .ok (.aload_n 0, 1) := by decide +kernel
theorem dX11_count_1 : decode cX11_count 1 = .ok (.iload_n 1, 1) := by decide +kernel
theorem dX11_count_2 : decode cX11_count 2 = .ok (.invokestatic 270, 3) := by decide +kernel
theorem dX11_count_5 : decode cX11_count 5 = .ok (.ifCond .eq 7, 3) := by decide +kernel
theorem dX11_count_8 : decode cX11_count 8 = .ok (.iconst 0, 1) := by decide +kernel
theorem dX11_count_9 : decode cX11_count 9 = .ok (.goto 4, 3) := by decide +kernel
theorem dX11_count_12 : decode cX11_count 12 = .ok (.iconst 1, 1) := by decide +kernel
theorem dX11_count_13 : decode cX11_count 13 = .ok (.putfield 213, 3) := by decide +kernel
theorem dX11_count_16 : decode cX11_count 16 = .ok (.aload_n 0, 1) := by decide +kernel
theorem dX11_count_17 : decode cX11_count 17 = .ok (.getfield 213, 3) := by decide +kernel
theorem dX11_count_20 : decode cX11_count 20 = .ok (.ifCond .le 7, 3) := by decide +kernel
theorem dX11_count_23 : decode cX11_count 23 = .ok (.iconst 0, 1) := by decide +kernel
theorem dX11_count_24 : decode cX11_count 24 = .ok (.goto 9, 3) := by decide +kernel
theorem dX11_count_27 : decode cX11_count 27 = .ok (.aload_n 0, 1) := by decide +kernel
theorem dX11_count_28 : decode cX11_count 28 = .ok (.getfield 7, 3) := by decide +kernel
theorem dX11_count_31 : decode cX11_count 31 = .ok (.iload_n 1, 1) := by decide +kernel
theorem dX11_count_32 : decode cX11_count 32 = .ok (.iaload, 1) := by decide +kernel
theorem dX11_count_33 : decode cX11_count 33 = .ok (.ireturn, 1) := by decide +kernel
theorem dX11_cell_0 : decode cX11_cell 0 = .ok (.aload_n 0, 1) := by decide +kernel
theorem dX11_cell_1 : decode cX11_cell 1 = .ok (.iload_n 1, 1) := by decide +kernel
theorem dX11_cell_2 : decode cX11_cell 2 = .ok (.invokestatic 270, 3) := by decide +kernel
theorem dX11_cell_5 : decode cX11_cell 5 = .ok (.ifCond .eq 21, 3) := by decide +kernel
theorem dX11_cell_8 : decode cX11_cell 8 = .ok (.aload_n 0, 1) := by decide +kernel
theorem dX11_cell_9 : decode cX11_cell 9 = .ok (.iload_n 1, 1) := by decide +kernel
theorem dX11_cell_10 : decode cX11_cell 10 = .ok (.iload_n 2, 1) := by decide +kernel
theorem dX11_cell_11 : decode cX11_cell 11 = .ok (.invokevirtual 252, 3) := by decide +kernel
theorem dX11_cell_14 : decode cX11_cell 14 = .ok (.iconst (-1), 1) := by decide +kernel
theorem dX11_cell_15 : decode cX11_cell 15 = .ok (.if_icmp .eq 11, 3) := by decide +kernel
theorem dX11_cell_18 : decode cX11_cell 18 = .ok (.iload_n 1, 1) := by decide +kernel
theorem dX11_cell_19 : decode cX11_cell 19 = .ok (.iload_n 3, 1) := by decide +kernel
theorem dX11_cell_20 : decode cX11_cell 20 = .ok (.invokestatic 224, 3) := by decide +kernel
theorem dX11_cell_23 : decode cX11_cell 23 = .ok (.ifCond .ne 7, 3) := by decide +kernel
theorem dX11_cell_26 : decode cX11_cell 26 = .ok (.iconst 1, 1) := by decide +kernel
theorem dX11_cell_27 : decode cX11_cell 27 = .ok (.goto 4, 3) := by decide +kernel
theorem dX11_cell_30 : decode cX11_cell 30 = .ok (.iconst 0, 1) := by decide +kernel
theorem dX11_cell_31 : decode cX11_cell 31 = .ok (.putfield 213, 3) := by decide +kernel
theorem dX11_cell_34 : decode cX11_cell 34 = .ok (.aload_n 0, 1) := by decide +kernel
theorem dX11_cell_35 : decode cX11_cell 35 = .ok (.getfield 213, 3) := by decide +kernel
theorem dX11_cell_38 : decode cX11_cell 38 = .ok (.ifCond .le 7, 3) := by decide +kernel
theorem dX11_cell_41 : decode cX11_cell 41 = .ok (.iconst 0, 1) := by decide +kernel
theorem dX11_cell_42 : decode cX11_cell 42 = .ok (.goto 23, 3) := by decide +kernel
theorem dX11_cell_45 : decode cX11_cell 45 = .ok (.aload_n 0, 1) := by decide +kernel
theorem dX11_cell_46 : decode cX11_cell 46 = .ok (.getfield 16, 3) := by decide +kernel
theorem dX11_cell_49 : decode cX11_cell 49 = .ok (.iconst 4, 1) := by decide +kernel
theorem dX11_cell_50 : decode cX11_cell 50 = .ok (.bipush 12, 2) := by decide +kernel
theorem dX11_cell_52 : decode cX11_cell 52 = .ok (.iload_n 1, 1) := by decide +kernel
theorem dX11_cell_53 : decode cX11_cell 53 = .ok (.imul, 1) := by decide +kernel
theorem dX11_cell_54 : decode cX11_cell 54 = .ok (.aload_n 0, 1) := by decide +kernel
theorem dX11_cell_55 : decode cX11_cell 55 = .ok (.iload_n 1, 1) := by decide +kernel
theorem dX11_cell_56 : decode cX11_cell 56 = .ok (.iload_n 2, 1) := by decide +kernel
theorem dX11_cell_57 : decode cX11_cell 57 = .ok (.invokevirtual 252, 3) := by decide +kernel
theorem dX11_cell_60 : decode cX11_cell 60 = .ok (.iadd, 1) := by decide +kernel
theorem dX11_cell_61 : decode cX11_cell 61 = .ok (.imul, 1) := by decide +kernel
theorem dX11_cell_62 : decode cX11_cell 62 = .ok (.iload_n 3, 1) := by decide +kernel
theorem dX11_cell_63 : decode cX11_cell 63 = .ok (.iadd, 1) := by decide +kernel
theorem dX11_cell_64 : decode cX11_cell 64 = .ok (.iaload, 1) := by decide +kernel
theorem dX11_cell_65 : decode cX11_cell 65 = .ok (.ireturn, 1) := by decide +kernel
theorem dX11_losses_0 : decode cX11_losses 0 = .ok (.aload_n 0, 1) := by decide +kernel
theorem dX11_losses_1 : decode cX11_losses 1 = .ok (.iconst 0, 1) := by decide +kernel
theorem dX11_losses_2 : decode cX11_losses 2 = .ok (.putfield 213, 3) := by decide +kernel
theorem dX11_losses_5 : decode cX11_losses 5 = .ok (.aload_n 0, 1) := by decide +kernel
theorem dX11_losses_6 : decode cX11_losses 6 = .ok (.getfield 256, 3) := by decide +kernel
theorem dX11_losses_9 : decode cX11_losses 9 = .ok (.ireturn, 1) := by decide +kernel
theorem dX11_moment_0 : decode cX11_moment 0 = .ok (.aload_n 0, 1) := by decide +kernel
theorem dX11_moment_1 : decode cX11_moment 1 = .ok (.iconst 0, 1) := by decide +kernel
theorem dX11_moment_2 : decode cX11_moment 2 = .ok (.putfield 213, 3) := by decide +kernel
theorem dX11_moment_5 : decode cX11_moment 5 = .ok (.aload_n 0, 1) := by decide +kernel
theorem dX11_moment_6 : decode cX11_moment 6 = .ok (.getfield 242, 3) := by decide +kernel
theorem dX11_moment_9 : decode cX11_moment 9 = .ok (.ireturn, 1) := by decide +kernel
theorem dX11_setPace_0 : decode cX11_setPace 0 = .ok (.aload_n 0, 1) := by decide +kernel
theorem dX11_setPace_1 : decode cX11_setPace 1 = .ok (.iload_n 1, 1) := by decide +kernel
theorem dX11_setPace_2 : decode cX11_setPace 2 = .ok (.invokestatic 290, 3) := by decide +kernel
theorem dX11_setPace_5 : decode cX11_setPace 5 = .ok (.ifCond .ne 7, 3) := by decide +kernel
theorem dX11_setPace_8 : decode cX11_setPace 8 = .ok (.iconst 1, 1) := by decide +kernel
theorem dX11_setPace_9 : decode cX11_setPace 9 = .ok (.goto 28, 3) := by decide +kernel
theorem dX11_setPace_12 : decode cX11_setPace 12 = .ok (.iload_n 2, 1) := by decide +kernel
theorem dX11_setPace_13 : decode cX11_setPace 13 = .ok (.iconst 0, 1) := by decide +kernel
theorem dX11_setPace_14 : decode cX11_setPace 14 = .ok (.bipush 30, 2) := by decide +kernel
theorem dX11_setPace_16 : decode cX11_setPace 16 = .ok (.invokestatic 216, 3) := by decide +kernel
theorem dX11_setPace_19 : decode cX11_setPace 19 = .ok (.ifCond .eq 17, 3) := by decide +kernel
theorem dX11_setPace_22 : decode cX11_setPace 22 = .ok (.iload_n 3, 1) := by decide +kernel
theorem dX11_setPace_23 : decode cX11_setPace 23 = .ok (.iconst 0, 1) := by decide +kernel
theorem dX11_setPace_24 : decode cX11_setPace 24 = .ok (.bipush 60, 2) := by decide +kernel
theorem dX11_setPace_26 : decode cX11_setPace 26 = .ok (.invokestatic 216, 3) := by decide +kernel
theorem dX11_setPace_29 : decode cX11_setPace 29 = .ok (.ifCond .eq 7, 3) := by decide +kernel
theorem dX11_setPace_32 : decode cX11_setPace 32 = .ok (.iconst 0, 1) := by decide +kernel
theorem dX11_setPace_33 : decode cX11_setPace 33 = .ok (.goto 4, 3) := by decide +kernel
theorem dX11_setPace_36 : decode cX11_setPace 36 = .ok (.iconst 2, 1) := by decide +kernel
theorem dX11_setPace_37 : decode cX11_setPace 37 = .ok (.putfield 213, 3) := by decide +kernel
theorem dX11_setPace_40 : decode cX11_setPace 40 = .ok (.aload_n 0, 1) := by decide +kernel
theorem dX11_setPace_41 : decode cX11_setPace 41 = .ok (.getfield 213, 3) := by decide +kernel
theorem dX11_setPace_44 : decode cX11_setPace 44 = .ok (.ifCond .le 5, 3) := by decide +kernel
theorem dX11_setPace_47 : decode cX11_setPace 47 = .ok (.iconst 0, 1) := by decide +kernel
theorem dX11_setPace_48 : decode cX11_setPace 48 = .ok (.ireturn, 1) := by decide +kernel
theorem dX11_setPace_49 : decode cX11_setPace 49 = .ok (.aload_n 0, 1) := by decide +kernel
theorem dX11_setPace_50 : decode cX11_setPace 50 = .ok (.getfield 25, 3) := by decide +kernel
theorem dX11_setPace_53 : decode cX11_setPace 53 = .ok (.iload_n 1, 1) := by decide +kernel
theorem dX11_setPace_54 : decode cX11_setPace 54 = .ok (.iaload, 1) := by decide +kernel
theorem dX11_setPace_55 : decode cX11_setPace 55 = .ok (.istore 4, 2) := by decide +kernel
theorem dX11_setPace_57 : decode cX11_setPace 57 = .ok (.aload_n 0, 1) := by decide +kernel
theorem dX11_setPace_58 : decode cX11_setPace 58 = .ok (.getfield 25, 3) := by decide +kernel
theorem dX11_setPace_61 : decode cX11_setPace 61 = .ok (.iload_n 1, 1) := by decide +kernel
theorem dX11_setPace_62 : decode cX11_setPace 62 = .ok (.iload_n 2, 1) := by decide +kernel
theorem dX11_setPace_63 : decode cX11_setPace 63 = .ok (.iastore, 1) := by decide +kernel
theorem dX11_setPace_64 : decode cX11_setPace 64 = .ok (.aload_n 0, 1) := by decide +kernel
theorem dX11_setPace_65 : decode cX11_setPace 65 = .ok (.getfield 28, 3) := by decide +kernel
theorem dX11_setPace_68 : decode cX11_setPace 68 = .ok (.iload_n 1, 1) := by decide +kernel
theorem dX11_setPace_69 : decode cX11_setPace 69 = .ok (.iload_n 3, 1) := by decide +kernel
theorem dX11_setPace_70 : decode cX11_setPace 70 = .ok (.iastore, 1) := by decide +kernel
theorem dX11_setPace_71 : decode cX11_setPace 71 = .ok (.iload 4, 2) := by decide +kernel
theorem dX11_setPace_73 : decode cX11_setPace 73 = .ok (.ireturn, 1) := by decide +kernel
theorem dX11_setBounds_0 : decode cX11_setBounds 0 = .ok (.aload_n 0, 1) := by decide +kernel
theorem dX11_setBounds_1 : decode cX11_setBounds 1 = .ok (.iload_n 1, 1) := by decide +kernel
theorem dX11_setBounds_2 : decode cX11_setBounds 2 = .ok (.invokestatic 290, 3) := by decide +kernel
theorem dX11_setBounds_5 : decode cX11_setBounds 5 = .ok (.ifCond .ne 7, 3) := by decide +kernel
theorem dX11_setBounds_8 : decode cX11_setBounds 8 = .ok (.iconst 1, 1) := by decide +kernel
theorem dX11_setBounds_9 : decode cX11_setBounds 9 = .ok (.goto 28, 3) := by decide +kernel
theorem dX11_setBounds_12 : decode cX11_setBounds 12 = .ok (.iload_n 2, 1) := by decide +kernel
theorem dX11_setBounds_13 : decode cX11_setBounds 13 = .ok (.iconst 1, 1) := by decide +kernel
theorem dX11_setBounds_14 : decode cX11_setBounds 14 = .ok (.bipush 20, 2) := by decide +kernel
theorem dX11_setBounds_16 : decode cX11_setBounds 16 = .ok (.invokestatic 216, 3) := by decide +kernel
theorem dX11_setBounds_19 : decode cX11_setBounds 19 = .ok (.ifCond .eq 17, 3) := by decide +kernel
theorem dX11_setBounds_22 : decode cX11_setBounds 22 = .ok (.iload_n 3, 1) := by decide +kernel
theorem dX11_setBounds_23 : decode cX11_setBounds 23 = .ok (.iconst 0, 1) := by decide +kernel
theorem dX11_setBounds_24 : decode cX11_setBounds 24 = .ok (.bipush 12, 2) := by decide +kernel
theorem dX11_setBounds_26 : decode cX11_setBounds 26 = .ok (.invokestatic 216, 3) := by decide +kernel
theorem dX11_setBounds_29 : decode cX11_setBounds 29 = .ok (.ifCond .eq 7, 3) := by decide +kernel
theorem dX11_setBounds_32 : decode cX11_setBounds 32 = .ok (.iconst 0, 1) := by decide +kernel
theorem dX11_setBounds_33 : decode cX11_setBounds 33 = .ok (.goto 4, 3) := by decide +kernel
theorem dX11_setBounds_36 : decode cX11_setBounds 36 = .ok (.iconst 2, 1) := by decide +kernel
theorem dX11_setBounds_37 : decode cX11_setBounds 37 = .ok (.putfield 213, 3) := by decide +kernel
theorem dX11_setBounds_40 : decode cX11_setBounds 40 = .ok (.aload_n 0, 1) := by decide +kernel
theorem dX11_setBounds_41 : decode cX11_setBounds 41 = .ok (.getfield 213, 3) := by decide +kernel
theorem dX11_setBounds_44 : decode cX11_setBounds 44 = .ok (.ifCond .le 5, 3) := by decide +kernel
theorem dX11_setBounds_47 : decode cX11_setBounds 47 = .ok (.iconst 0, 1) := by decide +kernel
theorem dX11_setBounds_48 : decode cX11_setBounds 48 = .ok (.ireturn, 1) := by decide +kernel
theorem dX11_setBounds_49 : decode cX11_setBounds 49 = .ok (.aload_n 0, 1) := by decide +kernel
theorem dX11_setBounds_50 : decode cX11_setBounds 50 = .ok (.getfield 31, 3) := by decide +kernel
theorem dX11_setBounds_53 : decode cX11_setBounds 53 = .ok (.iload_n 1, 1) := by decide +kernel
theorem dX11_setBounds_54 : decode cX11_setBounds 54 = .ok (.iaload, 1) := by decide +kernel
theorem dX11_setBounds_55 : decode cX11_setBounds 55 = .ok (.istore 4, 2) := by decide +kernel
theorem dX11_setBounds_57 : decode cX11_setBounds 57 = .ok (.aload_n 0, 1) := by decide +kernel
theorem dX11_setBounds_58 : decode cX11_setBounds 58 = .ok (.getfield 31, 3) := by decide +kernel
theorem dX11_setBounds_61 : decode cX11_setBounds 61 = .ok (.iload_n 1, 1) := by decide +kernel
theorem dX11_setBounds_62 : decode cX11_setBounds 62 = .ok (.iload_n 2, 1) := by decide +kernel
theorem dX11_setBounds_63 : decode cX11_setBounds 63 = .ok (.iastore, 1) := by decide +kernel
theorem dX11_setBounds_64 : decode cX11_setBounds 64 = .ok (.aload_n 0, 1) := by decide +kernel
theorem dX11_setBounds_65 : decode cX11_setBounds 65 = .ok (.getfield 34, 3) := by decide +kernel
theorem dX11_setBounds_68 : decode cX11_setBounds 68 = .ok (.iload_n 1, 1) := by decide +kernel
theorem dX11_setBounds_69 : decode cX11_setBounds 69 = .ok (.iload_n 3, 1) := by decide +kernel
theorem dX11_setBounds_70 : decode cX11_setBounds 70 = .ok (.iastore, 1) := by decide +kernel
theorem dX11_setBounds_71 : decode cX11_setBounds 71 = .ok (.iload 4, 2) := by decide +kernel
theorem dX11_setBounds_73 : decode cX11_setBounds 73 = .ok (.ireturn, 1) := by decide +kernel
theorem dX11_setLease_0 : decode cX11_setLease 0 = .ok (.aload_n 0, 1) := by decide +kernel
theorem dX11_setLease_1 : decode cX11_setLease 1 = .ok (.iload_n 1, 1) := by decide +kernel
theorem dX11_setLease_2 : decode cX11_setLease 2 = .ok (.invokestatic 290, 3) := by decide +kernel
theorem dX11_setLease_5 : decode cX11_setLease 5 = .ok (.ifCond .ne 7, 3) := by decide +kernel
theorem dX11_setLease_8 : decode cX11_setLease 8 = .ok (.iconst 1, 1) := by decide +kernel
theorem dX11_setLease_9 : decode cX11_setLease 9 = .ok (.goto 19, 3) := by decide +kernel
theorem dX11_setLease_12 : decode cX11_setLease 12 = .ok (.iload_n 2, 1) := by decide +kernel
theorem dX11_setLease_13 : decode cX11_setLease 13 = .ok (.iconst 0, 1) := by decide +kernel
theorem dX11_setLease_14 : decode cX11_setLease 14 = .ok (.sipush 200, 3) := by decide +kernel
theorem dX11_setLease_17 : decode cX11_setLease 17 = .ok (.invokestatic 216, 3) := by decide +kernel
theorem dX11_setLease_20 : decode cX11_setLease 20 = .ok (.ifCond .eq 7, 3) := by decide +kernel
theorem dX11_setLease_23 : decode cX11_setLease 23 = .ok (.iconst 0, 1) := by decide +kernel
theorem dX11_setLease_24 : decode cX11_setLease 24 = .ok (.goto 4, 3) := by decide +kernel
theorem dX11_setLease_27 : decode cX11_setLease 27 = .ok (.iconst 2, 1) := by decide +kernel
theorem dX11_setLease_28 : decode cX11_setLease 28 = .ok (.putfield 213, 3) := by decide +kernel
theorem dX11_setLease_31 : decode cX11_setLease 31 = .ok (.aload_n 0, 1) := by decide +kernel
theorem dX11_setLease_32 : decode cX11_setLease 32 = .ok (.getfield 213, 3) := by decide +kernel
theorem dX11_setLease_35 : decode cX11_setLease 35 = .ok (.ifCond .le 5, 3) := by decide +kernel
theorem dX11_setLease_38 : decode cX11_setLease 38 = .ok (.iconst 0, 1) := by decide +kernel
theorem dX11_setLease_39 : decode cX11_setLease 39 = .ok (.ireturn, 1) := by decide +kernel
theorem dX11_setLease_40 : decode cX11_setLease 40 = .ok (.aload_n 0, 1) := by decide +kernel
theorem dX11_setLease_41 : decode cX11_setLease 41 = .ok (.getfield 37, 3) := by decide +kernel
theorem dX11_setLease_44 : decode cX11_setLease 44 = .ok (.iload_n 1, 1) := by decide +kernel
theorem dX11_setLease_45 : decode cX11_setLease 45 = .ok (.iaload, 1) := by decide +kernel
theorem dX11_setLease_46 : decode cX11_setLease 46 = .ok (.istore_n 3, 1) := by decide +kernel
theorem dX11_setLease_47 : decode cX11_setLease 47 = .ok (.aload_n 0, 1) := by decide +kernel
theorem dX11_setLease_48 : decode cX11_setLease 48 = .ok (.getfield 37, 3) := by decide +kernel
theorem dX11_setLease_51 : decode cX11_setLease 51 = .ok (.iload_n 1, 1) := by decide +kernel
theorem dX11_setLease_52 : decode cX11_setLease 52 = .ok (.iload_n 2, 1) := by decide +kernel
theorem dX11_setLease_53 : decode cX11_setLease 53 = .ok (.iastore, 1) := by decide +kernel
theorem dX11_setLease_54 : decode cX11_setLease 54 = .ok (.aload_n 0, 1) := by decide +kernel
theorem dX11_setLease_55 : decode cX11_setLease 55 = .ok (.invokevirtual 245, 3) := by decide +kernel
theorem dX11_setLease_58 : decode cX11_setLease 58 = .ok (.iload_n 3, 1) := by decide +kernel
theorem dX11_setLease_59 : decode cX11_setLease 59 = .ok (.ireturn, 1) := by decide +kernel
theorem dX11_fail_0 : decode cX11_fail 0 = .ok (.aload_n 0, 1) := by decide +kernel
theorem dX11_fail_1 : decode cX11_fail 1 = .ok (.iload_n 1, 1) := by decide +kernel
theorem dX11_fail_2 : decode cX11_fail 2 = .ok (.invokestatic 290, 3) := by decide +kernel
theorem dX11_fail_5 : decode cX11_fail 5 = .ok (.ifCond .ne 7, 3) := by decide +kernel
theorem dX11_fail_8 : decode cX11_fail 8 = .ok (.iconst 1, 1) := by decide +kernel
theorem dX11_fail_9 : decode cX11_fail 9 = .ok (.goto 18, 3) := by decide +kernel
theorem dX11_fail_12 : decode cX11_fail 12 = .ok (.iload_n 2, 1) := by decide +kernel
theorem dX11_fail_13 : decode cX11_fail 13 = .ok (.iconst 0, 1) := by decide +kernel
theorem dX11_fail_14 : decode cX11_fail 14 = .ok (.bipush 20, 2) := by decide +kernel
theorem dX11_fail_16 : decode cX11_fail 16 = .ok (.invokestatic 216, 3) := by decide +kernel
theorem dX11_fail_19 : decode cX11_fail 19 = .ok (.ifCond .eq 7, 3) := by decide +kernel
theorem dX11_fail_22 : decode cX11_fail 22 = .ok (.iconst 0, 1) := by decide +kernel
theorem dX11_fail_23 : decode cX11_fail 23 = .ok (.goto 4, 3) := by decide +kernel
theorem dX11_fail_26 : decode cX11_fail 26 = .ok (.iconst 2, 1) := by decide +kernel
theorem dX11_fail_27 : decode cX11_fail 27 = .ok (.putfield 213, 3) := by decide +kernel
theorem dX11_fail_30 : decode cX11_fail 30 = .ok (.aload_n 0, 1) := by decide +kernel
theorem dX11_fail_31 : decode cX11_fail 31 = .ok (.getfield 213, 3) := by decide +kernel
theorem dX11_fail_34 : decode cX11_fail 34 = .ok (.ifCond .le 5, 3) := by decide +kernel
theorem dX11_fail_37 : decode cX11_fail 37 = .ok (.iconst 0, 1) := by decide +kernel
theorem dX11_fail_38 : decode cX11_fail 38 = .ok (.ireturn, 1) := by decide +kernel
theorem dX11_fail_39 : decode cX11_fail 39 = .ok (.aload_n 0, 1) := by decide +kernel
theorem dX11_fail_40 : decode cX11_fail 40 = .ok (.getfield 40, 3) := by decide +kernel
theorem dX11_fail_43 : decode cX11_fail 43 = .ok (.iload_n 1, 1) := by decide +kernel
theorem dX11_fail_44 : decode cX11_fail 44 = .ok (.iaload, 1) := by decide +kernel
theorem dX11_fail_45 : decode cX11_fail 45 = .ok (.istore 4, 2) := by decide +kernel
theorem dX11_fail_47 : decode cX11_fail 47 = .ok (.aload_n 0, 1) := by decide +kernel
theorem dX11_fail_48 : decode cX11_fail 48 = .ok (.getfield 40, 3) := by decide +kernel
theorem dX11_fail_51 : decode cX11_fail 51 = .ok (.iload_n 1, 1) := by decide +kernel
theorem dX11_fail_52 : decode cX11_fail 52 = .ok (.iload_n 2, 1) := by decide +kernel
theorem dX11_fail_53 : decode cX11_fail 53 = .ok (.iastore, 1) := by decide +kernel
theorem dX11_fail_54 : decode cX11_fail 54 = .ok (.aload_n 0, 1) := by decide +kernel
theorem dX11_fail_55 : decode cX11_fail 55 = .ok (.getfield 43, 3) := by decide +kernel
theorem dX11_fail_58 : decode cX11_fail 58 = .ok (.iload_n 1, 1) := by decide +kernel
theorem dX11_fail_59 : decode cX11_fail 59 = .ok (.iload_n 3, 1) := by decide +kernel
theorem dX11_fail_60 : decode cX11_fail 60 = .ok (.bastore, 1) := by decide +kernel
theorem dX11_fail_61 : decode cX11_fail 61 = .ok (.iload 4, 2) := by decide +kernel
theorem dX11_fail_63 : decode cX11_fail 63 = .ok (.ireturn, 1) := by decide +kernel
theorem dX11_forbid_0 : decode cX11_forbid 0 = .ok (.aload_n 0, 1) := by decide +kernel
theorem dX11_forbid_1 : decode cX11_forbid 1 = .ok (.iload_n 1, 1) := by decide +kernel
theorem dX11_forbid_2 : decode cX11_forbid 2 = .ok (.invokestatic 270, 3) := by decide +kernel
theorem dX11_forbid_5 : decode cX11_forbid 5 = .ok (.ifCond .eq 14, 3) := by decide +kernel
theorem dX11_forbid_8 : decode cX11_forbid 8 = .ok (.iload_n 2, 1) := by decide +kernel
theorem dX11_forbid_9 : decode cX11_forbid 9 = .ok (.invokestatic 290, 3) := by decide +kernel
theorem dX11_forbid_12 : decode cX11_forbid 12 = .ok (.ifCond .eq 7, 3) := by decide +kernel
theorem dX11_forbid_15 : decode cX11_forbid 15 = .ok (.iconst 0, 1) := by decide +kernel
theorem dX11_forbid_16 : decode cX11_forbid 16 = .ok (.goto 4, 3) := by decide +kernel
theorem dX11_forbid_19 : decode cX11_forbid 19 = .ok (.iconst 1, 1) := by decide +kernel
theorem dX11_forbid_20 : decode cX11_forbid 20 = .ok (.putfield 213, 3) := by decide +kernel
theorem dX11_forbid_23 : decode cX11_forbid 23 = .ok (.aload_n 0, 1) := by decide +kernel
theorem dX11_forbid_24 : decode cX11_forbid 24 = .ok (.getfield 213, 3) := by decide +kernel
theorem dX11_forbid_27 : decode cX11_forbid 27 = .ok (.ifCond .le 5, 3) := by decide +kernel
theorem dX11_forbid_30 : decode cX11_forbid 30 = .ok (.iconst 0, 1) := by decide +kernel
theorem dX11_forbid_31 : decode cX11_forbid 31 = .ok (.ireturn, 1) := by decide +kernel
theorem dX11_forbid_32 : decode cX11_forbid 32 = .ok (.aload_n 0, 1) := by decide +kernel
theorem dX11_forbid_33 : decode cX11_forbid 33 = .ok (.iload_n 1, 1) := by decide +kernel
theorem dX11_forbid_34 : decode cX11_forbid 34 = .ok (.iload_n 2, 1) := by decide +kernel
theorem dX11_forbid_35 : decode cX11_forbid 35 = .ok (.invokevirtual 293, 3) := by decide +kernel
theorem dX11_forbid_38 : decode cX11_forbid 38 = .ok (.istore 4, 2) := by decide +kernel
theorem dX11_forbid_40 : decode cX11_forbid 40 = .ok (.aload_n 0, 1) := by decide +kernel
theorem dX11_forbid_41 : decode cX11_forbid 41 = .ok (.getfield 59, 3) := by decide +kernel
theorem dX11_forbid_44 : decode cX11_forbid 44 = .ok (.iload_n 1, 1) := by decide +kernel
theorem dX11_forbid_45 : decode cX11_forbid 45 = .ok (.iload_n 3, 1) := by decide +kernel
theorem dX11_forbid_46 : decode cX11_forbid 46 = .ok (.ifCond .eq 16, 3) := by decide +kernel
theorem dX11_forbid_49 : decode cX11_forbid 49 = .ok (.aload_n 0, 1) := by decide +kernel
theorem dX11_forbid_50 : decode cX11_forbid 50 = .ok (.getfield 59, 3) := by decide +kernel
theorem dX11_forbid_53 : decode cX11_forbid 53 = .ok (.iload_n 1, 1) := by decide +kernel
theorem dX11_forbid_54 : decode cX11_forbid 54 = .ok (.iaload, 1) := by decide +kernel
theorem dX11_forbid_55 : decode cX11_forbid 55 = .ok (.iconst 1, 1) := by decide +kernel
theorem dX11_forbid_56 : decode cX11_forbid 56 = .ok (.iload_n 2, 1) := by decide +kernel
theorem dX11_forbid_57 : decode cX11_forbid 57 = .ok (.ishl, 1) := by decide +kernel
theorem dX11_forbid_58 : decode cX11_forbid 58 = .ok (.ior, 1) := by decide +kernel
theorem dX11_forbid_59 : decode cX11_forbid 59 = .ok (.goto 15, 3) := by decide +kernel
theorem dX11_forbid_62 : decode cX11_forbid 62 = .ok (.aload_n 0, 1) := by decide +kernel
theorem dX11_forbid_63 : decode cX11_forbid 63 = .ok (.getfield 59, 3) := by decide +kernel
theorem dX11_forbid_66 : decode cX11_forbid 66 = .ok (.iload_n 1, 1) := by decide +kernel
theorem dX11_forbid_67 : decode cX11_forbid 67 = .ok (.iaload, 1) := by decide +kernel
theorem dX11_forbid_68 : decode cX11_forbid 68 = .ok (.iconst 1, 1) := by decide +kernel
theorem dX11_forbid_69 : decode cX11_forbid 69 = .ok (.iload_n 2, 1) := by decide +kernel
theorem dX11_forbid_70 : decode cX11_forbid 70 = .ok (.ishl, 1) := by decide +kernel
theorem dX11_forbid_71 : decode cX11_forbid 71 = .ok (.iconst (-1), 1) := by decide +kernel
theorem dX11_forbid_72 : decode cX11_forbid 72 = .ok (.ixor, 1) := by decide +kernel
theorem dX11_forbid_73 : decode cX11_forbid 73 = .ok (.iand, 1) := by decide +kernel
theorem dX11_forbid_74 : decode cX11_forbid 74 = .ok (.iastore, 1) := by decide +kernel
theorem dX11_forbid_75 : decode cX11_forbid 75 = .ok (.iload 4, 2) := by decide +kernel
theorem dX11_forbid_77 : decode cX11_forbid 77 = .ok (.ireturn, 1) := by decide +kernel
theorem dX11_isForbidden_0 : decode cX11_isForbidden 0 = .ok (.aload_n 0, 1) := by decide +kernel
theorem dX11_isForbidden_1 : decode cX11_isForbidden 1 = .ok (.getfield 59, 3) := by decide +kernel
theorem dX11_isForbidden_4 : decode cX11_isForbidden 4 = .ok (.iload_n 1, 1) := by decide +kernel
theorem dX11_isForbidden_5 : decode cX11_isForbidden 5 = .ok (.iaload, 1) := by decide +kernel
theorem dX11_isForbidden_6 : decode cX11_isForbidden 6 = .ok (.iload_n 2, 1) := by decide +kernel
theorem dX11_isForbidden_7 : decode cX11_isForbidden 7 = .ok (.ishr, 1) := by decide +kernel
theorem dX11_isForbidden_8 : decode cX11_isForbidden 8 = .ok (.iconst 1, 1) := by decide +kernel
theorem dX11_isForbidden_9 : decode cX11_isForbidden 9 = .ok (.iand, 1) := by decide +kernel
theorem dX11_isForbidden_10 : decode cX11_isForbidden 10 = .ok (.iconst 1, 1) := by decide +kernel
theorem dX11_isForbidden_11 : decode cX11_isForbidden 11 = .ok (.if_icmp .ne 7, 3) := by decide +kernel
theorem dX11_isForbidden_14 : decode cX11_isForbidden 14 = .ok (.iconst 1, 1) := by decide +kernel
theorem dX11_isForbidden_15 : decode cX11_isForbidden 15 = .ok (.goto 4, 3) := by decide +kernel
theorem dX11_isForbidden_18 : decode cX11_isForbidden 18 = .ok (.iconst 0, 1) := by decide +kernel
theorem dX11_isForbidden_19 : decode cX11_isForbidden 19 = .ok (.ireturn, 1) := by decide +kernel
theorem dX11_goes_0 : decode cX11_goes 0 = .ok (.aload_n 0, 1) := by decide +kernel
theorem dX11_goes_1 : decode cX11_goes 1 = .ok (.dup, 1) := by decide +kernel
theorem dX11_goes_2 : decode cX11_goes 2 = .ok (.getfield 235, 3) := by decide +kernel
theorem dX11_goes_5 : decode cX11_goes 5 = .ok (.iload_n 1, 1) := by decide +kernel
theorem dX11_goes_6 : decode cX11_goes 6 = .ok (.iadd, 1) := by decide +kernel
theorem dX11_goes_7 : decode cX11_goes 7 = .ok (.putfield 235, 3) := by decide +kernel
theorem dX11_goes_10 : decode cX11_goes 10 = .ok (.aload_n 0, 1) := by decide +kernel
theorem dX11_goes_11 : decode cX11_goes 11 = .ok (.invokevirtual 245, 3) := by decide +kernel
theorem dX11_goes_14 : decode cX11_goes 14 = .ok (.return_, 1) := by decide +kernel
theorem dX11_pass_0 : decode cX11_pass 0 = .ok (.aload_n 0, 1) := by decide +kernel
theorem dX11_pass_1 : decode cX11_pass 1 = .ok (.iload_n 1, 1) := by decide +kernel
theorem dX11_pass_2 : decode cX11_pass 2 = .ok (.iconst 1, 1) := by decide +kernel
theorem dX11_pass_3 : decode cX11_pass 3 = .ok (.bipush 100, 2) := by decide +kernel
theorem dX11_pass_5 : decode cX11_pass 5 = .ok (.invokestatic 216, 3) := by decide +kernel
theorem dX11_pass_8 : decode cX11_pass 8 = .ok (.ifCond .eq 7, 3) := by decide +kernel
theorem dX11_pass_11 : decode cX11_pass 11 = .ok (.iconst 0, 1) := by decide +kernel
theorem dX11_pass_12 : decode cX11_pass 12 = .ok (.goto 4, 3) := by decide +kernel
theorem dX11_pass_15 : decode cX11_pass 15 = .ok (.iconst 1, 1) := by decide +kernel
theorem dX11_pass_16 : decode cX11_pass 16 = .ok (.putfield 213, 3) := by decide +kernel
theorem dX11_pass_19 : decode cX11_pass 19 = .ok (.aload_n 0, 1) := by decide +kernel
theorem dX11_pass_20 : decode cX11_pass 20 = .ok (.getfield 213, 3) := by decide +kernel
theorem dX11_pass_23 : decode cX11_pass 23 = .ok (.ifCond .le 5, 3) := by decide +kernel
theorem dX11_pass_26 : decode cX11_pass 26 = .ok (.iconst 0, 1) := by decide +kernel
theorem dX11_pass_27 : decode cX11_pass 27 = .ok (.ireturn, 1) := by decide +kernel
theorem dX11_pass_28 : decode cX11_pass 28 = .ok (.aload_n 0, 1) := by decide +kernel
theorem dX11_pass_29 : decode cX11_pass 29 = .ok (.iload_n 1, 1) := by decide +kernel
theorem dX11_pass_30 : decode cX11_pass 30 = .ok (.invokevirtual 296, 3) := by decide +kernel
theorem dX11_pass_33 : decode cX11_pass 33 = .ok (.aload_n 0, 1) := by decide +kernel
theorem dX11_pass_34 : decode cX11_pass 34 = .ok (.getfield 235, 3) := by decide +kernel
theorem dX11_pass_37 : decode cX11_pass 37 = .ok (.ireturn, 1) := by decide +kernel
theorem dX11_now_0 : decode cX11_now 0 = .ok (.aload_n 0, 1) := by decide +kernel
theorem dX11_now_1 : decode cX11_now 1 = .ok (.iconst 0, 1) := by decide +kernel
theorem dX11_now_2 : decode cX11_now 2 = .ok (.putfield 213, 3) := by decide +kernel
theorem dX11_now_5 : decode cX11_now 5 = .ok (.aload_n 0, 1) := by decide +kernel
theorem dX11_now_6 : decode cX11_now 6 = .ok (.getfield 235, 3) := by decide +kernel
theorem dX11_now_9 : decode cX11_now 9 = .ok (.ireturn, 1) := by decide +kernel
theorem dX11_isSeat_0 : decode cX11_isSeat 0 = .ok (.iload_n 1, 1) := by decide +kernel
theorem dX11_isSeat_1 : decode cX11_isSeat 1 = .ok (.iconst 0, 1) := by decide +kernel
theorem dX11_isSeat_2 : decode cX11_isSeat 2 = .ok (.aload_n 0, 1) := by decide +kernel
theorem dX11_isSeat_3 : decode cX11_isSeat 3 = .ok (.getfield 299, 3) := by decide +kernel
theorem dX11_isSeat_6 : decode cX11_isSeat 6 = .ok (.iconst 1, 1) := by decide +kernel
theorem dX11_isSeat_7 : decode cX11_isSeat 7 = .ok (.isub, 1) := by decide +kernel
theorem dX11_isSeat_8 : decode cX11_isSeat 8 = .ok (.invokestatic 216, 3) := by decide +kernel
theorem dX11_isSeat_11 : decode cX11_isSeat 11 = .ok (.ireturn, 1) := by decide +kernel
theorem dX11_isSeatColumn_0 : decode cX11_isSeatColumn 0 = .ok (.aload_n 0, 1) := by decide +kernel
theorem dX11_isSeatColumn_1 : decode cX11_isSeatColumn 1 = .ok (.iload_n 1, 1) := by decide +kernel
theorem dX11_isSeatColumn_2 : decode cX11_isSeatColumn 2 = .ok (.invokevirtual 302, 3) := by decide +kernel
theorem dX11_isSeatColumn_5 : decode cX11_isSeatColumn 5 = .ok (.ifCond .eq 20, 3) := by decide +kernel
theorem dX11_isSeatColumn_8 : decode cX11_isSeatColumn 8 = .ok (.aload_n 0, 1) := by decide +kernel
theorem dX11_isSeatColumn_9 : decode cX11_isSeatColumn 9 = .ok (.getfield 65, 3) := by decide +kernel
theorem dX11_isSeatColumn_12 : decode cX11_isSeatColumn 12 = .ok (.iload_n 1, 1) := by decide +kernel
theorem dX11_isSeatColumn_13 : decode cX11_isSeatColumn 13 = .ok (.iaload, 1) := by decide +kernel
theorem dX11_isSeatColumn_14 : decode cX11_isSeatColumn 14 = .ok (.iload_n 2, 1) := by decide +kernel
theorem dX11_isSeatColumn_15 : decode cX11_isSeatColumn 15 = .ok (.invokestatic 224, 3) := by decide +kernel
theorem dX11_isSeatColumn_18 : decode cX11_isSeatColumn 18 = .ok (.ifCond .eq 7, 3) := by decide +kernel
theorem dX11_isSeatColumn_21 : decode cX11_isSeatColumn 21 = .ok (.iconst 1, 1) := by decide +kernel
theorem dX11_isSeatColumn_22 : decode cX11_isSeatColumn 22 = .ok (.goto 4, 3) := by decide +kernel
theorem dX11_isSeatColumn_25 : decode cX11_isSeatColumn 25 = .ok (.iconst 0, 1) := by decide +kernel
theorem dX11_isSeatColumn_26 : decode cX11_isSeatColumn 26 = .ok (.ireturn, 1) := by decide +kernel
theorem dX11_seat_0 : decode cX11_seat 0 = .ok (.aload_n 0, 1) := by decide +kernel
theorem dX11_seat_1 : decode cX11_seat 1 = .ok (.iload_n 1, 1) := by decide +kernel
theorem dX11_seat_2 : decode cX11_seat 2 = .ok (.invokestatic 270, 3) := by decide +kernel
theorem dX11_seat_5 : decode cX11_seat 5 = .ok (.ifCond .ne 7, 3) := by decide +kernel
theorem dX11_seat_8 : decode cX11_seat 8 = .ok (.iconst 1, 1) := by decide +kernel
theorem dX11_seat_9 : decode cX11_seat 9 = .ok (.goto 16, 3) := by decide +kernel
theorem dX11_seat_12 : decode cX11_seat 12 = .ok (.aload_n 0, 1) := by decide +kernel
theorem dX11_seat_13 : decode cX11_seat 13 = .ok (.getfield 299, 3) := by decide +kernel
theorem dX11_seat_16 : decode cX11_seat 16 = .ok (.iconst 3, 1) := by decide +kernel
theorem dX11_seat_17 : decode cX11_seat 17 = .ok (.if_icmp .ne 7, 3) := by decide +kernel
theorem dX11_seat_20 : decode cX11_seat 20 = .ok (.iconst 2, 1) := by decide +kernel
theorem dX11_seat_21 : decode cX11_seat 21 = .ok (.goto 4, 3) := by decide +kernel
theorem dX11_seat_24 : decode cX11_seat 24 = .ok (.iconst 0, 1) := by decide +kernel
theorem dX11_seat_25 : decode cX11_seat 25 = .ok (.putfield 213, 3) := by decide +kernel
theorem dX11_seat_28 : decode cX11_seat 28 = .ok (.aload_n 0, 1) := by decide +kernel
theorem dX11_seat_29 : decode cX11_seat 29 = .ok (.getfield 213, 3) := by decide +kernel
theorem dX11_seat_32 : decode cX11_seat 32 = .ok (.ifCond .le 5, 3) := by decide +kernel
theorem dX11_seat_35 : decode cX11_seat 35 = .ok (.iconst 0, 1) := by decide +kernel
theorem dX11_seat_36 : decode cX11_seat 36 = .ok (.ireturn, 1) := by decide +kernel
theorem dX11_seat_37 : decode cX11_seat 37 = .ok (.aload_n 0, 1) := by decide +kernel
theorem dX11_seat_38 : decode cX11_seat 38 = .ok (.getfield 65, 3) := by decide +kernel
theorem dX11_seat_41 : decode cX11_seat 41 = .ok (.aload_n 0, 1) := by decide +kernel
theorem dX11_seat_42 : decode cX11_seat 42 = .ok (.getfield 299, 3) := by decide +kernel
theorem dX11_seat_45 : decode cX11_seat 45 = .ok (.iload_n 1, 1) := by decide +kernel
theorem dX11_seat_46 : decode cX11_seat 46 = .ok (.iastore, 1) := by decide +kernel
theorem dX11_seat_47 : decode cX11_seat 47 = .ok (.aload_n 0, 1) := by decide +kernel
theorem dX11_seat_48 : decode cX11_seat 48 = .ok (.dup, 1) := by decide +kernel
theorem dX11_seat_49 : decode cX11_seat 49 = .ok (.getfield 299, 3) := by decide +kernel
theorem dX11_seat_52 : decode cX11_seat 52 = .ok (.iconst 1, 1) := by decide +kernel
theorem dX11_seat_53 : decode cX11_seat 53 = .ok (.iadd, 1) := by decide +kernel
theorem dX11_seat_54 : decode cX11_seat 54 = .ok (.putfield 299, 3) := by decide +kernel
theorem dX11_seat_57 : decode cX11_seat 57 = .ok (.aload_n 0, 1) := by decide +kernel
theorem dX11_seat_58 : decode cX11_seat 58 = .ok (.getfield 299, 3) := by decide +kernel
theorem dX11_seat_61 : decode cX11_seat 61 = .ok (.iconst 1, 1) := by decide +kernel
theorem dX11_seat_62 : decode cX11_seat 62 = .ok (.isub, 1) := by decide +kernel
theorem dX11_seat_63 : decode cX11_seat 63 = .ok (.ireturn, 1) := by decide +kernel
theorem dX11_link_0 : decode cX11_link 0 = .ok (.aload_n 0, 1) := by decide +kernel
theorem dX11_link_1 : decode cX11_link 1 = .ok (.aload_n 0, 1) := by decide +kernel
theorem dX11_link_2 : decode cX11_link 2 = .ok (.iload_n 1, 1) := by decide +kernel
theorem dX11_link_3 : decode cX11_link 3 = .ok (.iload_n 2, 1) := by decide +kernel
theorem dX11_link_4 : decode cX11_link 4 = .ok (.invokevirtual 305, 3) := by decide +kernel
theorem dX11_link_7 : decode cX11_link 7 = .ok (.ifCond .eq 13, 3) := by decide +kernel
theorem dX11_link_10 : decode cX11_link 10 = .ok (.aload_n 0, 1) := by decide +kernel
theorem dX11_link_11 : decode cX11_link 11 = .ok (.iload_n 3, 1) := by decide +kernel
theorem dX11_link_12 : decode cX11_link 12 = .ok (.iload 4, 2) := by decide +kernel
theorem dX11_link_14 : decode cX11_link 14 = .ok (.invokevirtual 305, 3) := by decide +kernel
theorem dX11_link_17 : decode cX11_link 17 = .ok (.ifCond .ne 7, 3) := by decide +kernel
theorem dX11_link_20 : decode cX11_link 20 = .ok (.iconst 1, 1) := by decide +kernel
theorem dX11_link_21 : decode cX11_link 21 = .ok (.goto 25, 3) := by decide +kernel
theorem dX11_link_24 : decode cX11_link 24 = .ok (.iload_n 3, 1) := by decide +kernel
theorem dX11_link_25 : decode cX11_link 25 = .ok (.iload_n 1, 1) := by decide +kernel
theorem dX11_link_26 : decode cX11_link 26 = .ok (.if_icmp .gt 7, 3) := by decide +kernel
theorem dX11_link_29 : decode cX11_link 29 = .ok (.iconst 2, 1) := by decide +kernel
theorem dX11_link_30 : decode cX11_link 30 = .ok (.goto 16, 3) := by decide +kernel
theorem dX11_link_33 : decode cX11_link 33 = .ok (.aload_n 0, 1) := by decide +kernel
theorem dX11_link_34 : decode cX11_link 34 = .ok (.getfield 308, 3) := by decide +kernel
theorem dX11_link_37 : decode cX11_link 37 = .ok (.iconst 3, 1) := by decide +kernel
theorem dX11_link_38 : decode cX11_link 38 = .ok (.if_icmp .ne 7, 3) := by decide +kernel
theorem dX11_link_41 : decode cX11_link 41 = .ok (.iconst 3, 1) := by decide +kernel
theorem dX11_link_42 : decode cX11_link 42 = .ok (.goto 4, 3) := by decide +kernel
theorem dX11_link_45 : decode cX11_link 45 = .ok (.iconst 0, 1) := by decide +kernel
theorem dX11_link_46 : decode cX11_link 46 = .ok (.putfield 213, 3) := by decide +kernel
theorem dX11_link_49 : decode cX11_link 49 = .ok (.aload_n 0, 1) := by decide +kernel
theorem dX11_link_50 : decode cX11_link 50 = .ok (.getfield 213, 3) := by decide +kernel
theorem dX11_link_53 : decode cX11_link 53 = .ok (.ifCond .le 5, 3) := by decide +kernel
theorem dX11_link_56 : decode cX11_link 56 = .ok (.iconst 0, 1) := by decide +kernel
theorem dX11_link_57 : decode cX11_link 57 = .ok (.ireturn, 1) := by decide +kernel
theorem dX11_link_58 : decode cX11_link 58 = .ok (.aload_n 0, 1) := by decide +kernel
theorem dX11_link_59 : decode cX11_link 59 = .ok (.getfield 68, 3) := by decide +kernel
theorem dX11_link_62 : decode cX11_link 62 = .ok (.aload_n 0, 1) := by decide +kernel
theorem dX11_link_63 : decode cX11_link 63 = .ok (.getfield 308, 3) := by decide +kernel
theorem dX11_link_66 : decode cX11_link 66 = .ok (.iload_n 1, 1) := by decide +kernel
theorem dX11_link_67 : decode cX11_link 67 = .ok (.iastore, 1) := by decide +kernel
theorem dX11_link_68 : decode cX11_link 68 = .ok (.aload_n 0, 1) := by decide +kernel
theorem dX11_link_69 : decode cX11_link 69 = .ok (.getfield 71, 3) := by decide +kernel
theorem dX11_link_72 : decode cX11_link 72 = .ok (.aload_n 0, 1) := by decide +kernel
theorem dX11_link_73 : decode cX11_link 73 = .ok (.getfield 308, 3) := by decide +kernel
theorem dX11_link_76 : decode cX11_link 76 = .ok (.iload_n 2, 1) := by decide +kernel
theorem dX11_link_77 : decode cX11_link 77 = .ok (.iastore, 1) := by decide +kernel
theorem dX11_link_78 : decode cX11_link 78 = .ok (.aload_n 0, 1) := by decide +kernel
theorem dX11_link_79 : decode cX11_link 79 = .ok (.getfield 74, 3) := by decide +kernel
theorem dX11_link_82 : decode cX11_link 82 = .ok (.aload_n 0, 1) := by decide +kernel
theorem dX11_link_83 : decode cX11_link 83 = .ok (.getfield 308, 3) := by decide +kernel
theorem dX11_link_86 : decode cX11_link 86 = .ok (.iload_n 3, 1) := by decide +kernel
theorem dX11_link_87 : decode cX11_link 87 = .ok (.iastore, 1) := by decide +kernel
theorem dX11_link_88 : decode cX11_link 88 = .ok (.aload_n 0, 1) := by decide +kernel
theorem dX11_link_89 : decode cX11_link 89 = .ok (.getfield 77, 3) := by decide +kernel
theorem dX11_link_92 : decode cX11_link 92 = .ok (.aload_n 0, 1) := by decide +kernel
theorem dX11_link_93 : decode cX11_link 93 = .ok (.getfield 308, 3) := by decide +kernel
theorem dX11_link_96 : decode cX11_link 96 = .ok (.iload 4, 2) := by decide +kernel
theorem dX11_link_98 : decode cX11_link 98 = .ok (.iastore, 1) := by decide +kernel
theorem dX11_link_99 : decode cX11_link 99 = .ok (.aload_n 0, 1) := by decide +kernel
theorem dX11_link_100 : decode cX11_link 100 = .ok (.dup, 1) := by decide +kernel
theorem dX11_link_101 : decode cX11_link 101 = .ok (.getfield 308, 3) := by decide +kernel
theorem dX11_link_104 : decode cX11_link 104 = .ok (.iconst 1, 1) := by decide +kernel
theorem dX11_link_105 : decode cX11_link 105 = .ok (.iadd, 1) := by decide +kernel
theorem dX11_link_106 : decode cX11_link 106 = .ok (.putfield 308, 3) := by decide +kernel
theorem dX11_link_109 : decode cX11_link 109 = .ok (.aload_n 0, 1) := by decide +kernel
theorem dX11_link_110 : decode cX11_link 110 = .ok (.getfield 308, 3) := by decide +kernel
theorem dX11_link_113 : decode cX11_link 113 = .ok (.ireturn, 1) := by decide +kernel
theorem dX11_where_0 : decode cX11_where 0 = .ok (.iload_n 3, 1) := by decide +kernel
theorem dX11_where_1 : decode cX11_where 1 = .ok (.iconst 0, 1) := by decide +kernel
theorem dX11_where_2 : decode cX11_where 2 = .ok (.iconst 4, 1) := by decide +kernel
theorem dX11_where_3 : decode cX11_where 3 = .ok (.invokestatic 216, 3) := by decide +kernel
theorem dX11_where_6 : decode cX11_where 6 = .ok (.ifCond .eq 28, 3) := by decide +kernel
theorem dX11_where_9 : decode cX11_where 9 = .ok (.iload_n 3, 1) := by decide +kernel
theorem dX11_where_10 : decode cX11_where 10 = .ok (.iconst 3, 1) := by decide +kernel
theorem dX11_where_11 : decode cX11_where 11 = .ok (.if_icmp .ge 14, 3) := by decide +kernel
theorem dX11_where_14 : decode cX11_where 14 = .ok (.iload 4, 2) := by decide +kernel
theorem dX11_where_16 : decode cX11_where 16 = .ok (.invokestatic 228, 3) := by decide +kernel
theorem dX11_where_19 : decode cX11_where 19 = .ok (.ifCond .eq 15, 3) := by decide +kernel
theorem dX11_where_22 : decode cX11_where 22 = .ok (.goto 8, 3) := by decide +kernel
theorem dX11_where_25 : decode cX11_where 25 = .ok (.iload 4, 2) := by decide +kernel
theorem dX11_where_27 : decode cX11_where 27 = .ok (.ifCond .ne 7, 3) := by decide +kernel
theorem dX11_where_30 : decode cX11_where 30 = .ok (.iconst 1, 1) := by decide +kernel
theorem dX11_where_31 : decode cX11_where 31 = .ok (.goto 4, 3) := by decide +kernel
theorem dX11_where_34 : decode cX11_where 34 = .ok (.iconst 0, 1) := by decide +kernel
theorem dX11_where_35 : decode cX11_where 35 = .ok (.istore 5, 2) := by decide +kernel
theorem dX11_where_37 : decode cX11_where 37 = .ok (.aload_n 0, 1) := by decide +kernel
theorem dX11_where_38 : decode cX11_where 38 = .ok (.aload_n 0, 1) := by decide +kernel
theorem dX11_where_39 : decode cX11_where 39 = .ok (.iload_n 1, 1) := by decide +kernel
theorem dX11_where_40 : decode cX11_where 40 = .ok (.iload_n 2, 1) := by decide +kernel
theorem dX11_where_41 : decode cX11_where 41 = .ok (.invokevirtual 305, 3) := by decide +kernel
theorem dX11_where_44 : decode cX11_where 44 = .ok (.ifCond .ne 7, 3) := by decide +kernel
theorem dX11_where_47 : decode cX11_where 47 = .ok (.iconst 1, 1) := by decide +kernel
theorem dX11_where_48 : decode cX11_where 48 = .ok (.goto 25, 3) := by decide +kernel
theorem dX11_where_51 : decode cX11_where 51 = .ok (.iload 5, 2) := by decide +kernel
theorem dX11_where_53 : decode cX11_where 53 = .ok (.ifCond .ne 7, 3) := by decide +kernel
theorem dX11_where_56 : decode cX11_where 56 = .ok (.iconst 2, 1) := by decide +kernel
theorem dX11_where_57 : decode cX11_where 57 = .ok (.goto 16, 3) := by decide +kernel
theorem dX11_where_60 : decode cX11_where 60 = .ok (.aload_n 0, 1) := by decide +kernel
theorem dX11_where_61 : decode cX11_where 61 = .ok (.getfield 311, 3) := by decide +kernel
theorem dX11_where_64 : decode cX11_where 64 = .ok (.iconst 4, 1) := by decide +kernel
theorem dX11_where_65 : decode cX11_where 65 = .ok (.if_icmp .ne 7, 3) := by decide +kernel
theorem dX11_where_68 : decode cX11_where 68 = .ok (.iconst 3, 1) := by decide +kernel
theorem dX11_where_69 : decode cX11_where 69 = .ok (.goto 4, 3) := by decide +kernel
theorem dX11_where_72 : decode cX11_where 72 = .ok (.iconst 0, 1) := by decide +kernel
theorem dX11_where_73 : decode cX11_where 73 = .ok (.putfield 213, 3) := by decide +kernel
theorem dX11_where_76 : decode cX11_where 76 = .ok (.aload_n 0, 1) := by decide +kernel
theorem dX11_where_77 : decode cX11_where 77 = .ok (.getfield 213, 3) := by decide +kernel
theorem dX11_where_80 : decode cX11_where 80 = .ok (.ifCond .le 5, 3) := by decide +kernel
theorem dX11_where_83 : decode cX11_where 83 = .ok (.iconst 0, 1) := by decide +kernel
theorem dX11_where_84 : decode cX11_where 84 = .ok (.ireturn, 1) := by decide +kernel
theorem dX11_where_85 : decode cX11_where 85 = .ok (.aload_n 0, 1) := by decide +kernel
theorem dX11_where_86 : decode cX11_where 86 = .ok (.getfield 80, 3) := by decide +kernel
theorem dX11_where_89 : decode cX11_where 89 = .ok (.aload_n 0, 1) := by decide +kernel
theorem dX11_where_90 : decode cX11_where 90 = .ok (.getfield 311, 3) := by decide +kernel
theorem dX11_where_93 : decode cX11_where 93 = .ok (.iload_n 1, 1) := by decide +kernel
theorem dX11_where_94 : decode cX11_where 94 = .ok (.iastore, 1) := by decide +kernel
theorem dX11_where_95 : decode cX11_where 95 = .ok (.aload_n 0, 1) := by decide +kernel
theorem dX11_where_96 : decode cX11_where 96 = .ok (.getfield 83, 3) := by decide +kernel
theorem dX11_where_99 : decode cX11_where 99 = .ok (.aload_n 0, 1) := by decide +kernel
theorem dX11_where_100 : decode cX11_where 100 = .ok (.getfield 311, 3) := by decide +kernel
theorem dX11_where_103 : decode cX11_where 103 = .ok (.iload_n 2, 1) := by decide +kernel
theorem dX11_where_104 : decode cX11_where 104 = .ok (.iastore, 1) := by decide +kernel
theorem dX11_where_105 : decode cX11_where 105 = .ok (.aload_n 0, 1) := by decide +kernel
theorem dX11_where_106 : decode cX11_where 106 = .ok (.getfield 86, 3) := by decide +kernel
theorem dX11_where_109 : decode cX11_where 109 = .ok (.aload_n 0, 1) := by decide +kernel
theorem dX11_where_110 : decode cX11_where 110 = .ok (.getfield 311, 3) := by decide +kernel
theorem dX11_where_113 : decode cX11_where 113 = .ok (.iload_n 3, 1) := by decide +kernel
theorem dX11_where_114 : decode cX11_where 114 = .ok (.iastore, 1) := by decide +kernel
theorem dX11_where_115 : decode cX11_where 115 = .ok (.aload_n 0, 1) := by decide +kernel
theorem dX11_where_116 : decode cX11_where 116 = .ok (.getfield 89, 3) := by decide +kernel
theorem dX11_where_119 : decode cX11_where 119 = .ok (.aload_n 0, 1) := by decide +kernel
theorem dX11_where_120 : decode cX11_where 120 = .ok (.getfield 311, 3) := by decide +kernel
theorem dX11_where_123 : decode cX11_where 123 = .ok (.iload 4, 2) := by decide +kernel
theorem dX11_where_125 : decode cX11_where 125 = .ok (.iastore, 1) := by decide +kernel
theorem dX11_where_126 : decode cX11_where 126 = .ok (.aload_n 0, 1) := by decide +kernel
theorem dX11_where_127 : decode cX11_where 127 = .ok (.dup, 1) := by decide +kernel
theorem dX11_where_128 : decode cX11_where 128 = .ok (.getfield 311, 3) := by decide +kernel
theorem dX11_where_131 : decode cX11_where 131 = .ok (.iconst 1, 1) := by decide +kernel
theorem dX11_where_132 : decode cX11_where 132 = .ok (.iadd, 1) := by decide +kernel
theorem dX11_where_133 : decode cX11_where 133 = .ok (.putfield 311, 3) := by decide +kernel
theorem dX11_where_136 : decode cX11_where 136 = .ok (.aload_n 0, 1) := by decide +kernel
theorem dX11_where_137 : decode cX11_where 137 = .ok (.getfield 311, 3) := by decide +kernel
theorem dX11_where_140 : decode cX11_where 140 = .ok (.ireturn, 1) := by decide +kernel
theorem dX11_out_0 : decode cX11_out 0 = .ok (.aload_n 0, 1) := by decide +kernel
theorem dX11_out_1 : decode cX11_out 1 = .ok (.aload_n 0, 1) := by decide +kernel
theorem dX11_out_2 : decode cX11_out 2 = .ok (.iload_n 1, 1) := by decide +kernel
theorem dX11_out_3 : decode cX11_out 3 = .ok (.iload_n 2, 1) := by decide +kernel
theorem dX11_out_4 : decode cX11_out 4 = .ok (.invokevirtual 305, 3) := by decide +kernel
theorem dX11_out_7 : decode cX11_out 7 = .ok (.ifCond .ne 7, 3) := by decide +kernel
theorem dX11_out_10 : decode cX11_out 10 = .ok (.iconst 1, 1) := by decide +kernel
theorem dX11_out_11 : decode cX11_out 11 = .ok (.goto 16, 3) := by decide +kernel
theorem dX11_out_14 : decode cX11_out 14 = .ok (.aload_n 0, 1) := by decide +kernel
theorem dX11_out_15 : decode cX11_out 15 = .ok (.getfield 314, 3) := by decide +kernel
theorem dX11_out_18 : decode cX11_out 18 = .ok (.iconst 3, 1) := by decide +kernel
theorem dX11_out_19 : decode cX11_out 19 = .ok (.if_icmp .ne 7, 3) := by decide +kernel
theorem dX11_out_22 : decode cX11_out 22 = .ok (.iconst 2, 1) := by decide +kernel
theorem dX11_out_23 : decode cX11_out 23 = .ok (.goto 4, 3) := by decide +kernel
theorem dX11_out_26 : decode cX11_out 26 = .ok (.iconst 0, 1) := by decide +kernel
theorem dX11_out_27 : decode cX11_out 27 = .ok (.putfield 213, 3) := by decide +kernel
theorem dX11_out_30 : decode cX11_out 30 = .ok (.aload_n 0, 1) := by decide +kernel
theorem dX11_out_31 : decode cX11_out 31 = .ok (.getfield 213, 3) := by decide +kernel
theorem dX11_out_34 : decode cX11_out 34 = .ok (.ifCond .le 5, 3) := by decide +kernel
theorem dX11_out_37 : decode cX11_out 37 = .ok (.iconst 0, 1) := by decide +kernel
theorem dX11_out_38 : decode cX11_out 38 = .ok (.ireturn, 1) := by decide +kernel
theorem dX11_out_39 : decode cX11_out 39 = .ok (.aload_n 0, 1) := by decide +kernel
theorem dX11_out_40 : decode cX11_out 40 = .ok (.getfield 92, 3) := by decide +kernel
theorem dX11_out_43 : decode cX11_out 43 = .ok (.aload_n 0, 1) := by decide +kernel
theorem dX11_out_44 : decode cX11_out 44 = .ok (.getfield 314, 3) := by decide +kernel
theorem dX11_out_47 : decode cX11_out 47 = .ok (.iload_n 1, 1) := by decide +kernel
theorem dX11_out_48 : decode cX11_out 48 = .ok (.iastore, 1) := by decide +kernel
theorem dX11_out_49 : decode cX11_out 49 = .ok (.aload_n 0, 1) := by decide +kernel
theorem dX11_out_50 : decode cX11_out 50 = .ok (.getfield 95, 3) := by decide +kernel
theorem dX11_out_53 : decode cX11_out 53 = .ok (.aload_n 0, 1) := by decide +kernel
theorem dX11_out_54 : decode cX11_out 54 = .ok (.getfield 314, 3) := by decide +kernel
theorem dX11_out_57 : decode cX11_out 57 = .ok (.iload_n 2, 1) := by decide +kernel
theorem dX11_out_58 : decode cX11_out 58 = .ok (.iastore, 1) := by decide +kernel
theorem dX11_out_59 : decode cX11_out 59 = .ok (.aload_n 0, 1) := by decide +kernel
theorem dX11_out_60 : decode cX11_out 60 = .ok (.dup, 1) := by decide +kernel
theorem dX11_out_61 : decode cX11_out 61 = .ok (.getfield 314, 3) := by decide +kernel
theorem dX11_out_64 : decode cX11_out 64 = .ok (.iconst 1, 1) := by decide +kernel
theorem dX11_out_65 : decode cX11_out 65 = .ok (.iadd, 1) := by decide +kernel
theorem dX11_out_66 : decode cX11_out 66 = .ok (.putfield 314, 3) := by decide +kernel
theorem dX11_out_69 : decode cX11_out 69 = .ok (.aload_n 0, 1) := by decide +kernel
theorem dX11_out_70 : decode cX11_out 70 = .ok (.getfield 314, 3) := by decide +kernel
theorem dX11_out_73 : decode cX11_out 73 = .ok (.ireturn, 1) := by decide +kernel
theorem dX11_shape_0 : decode cX11_shape 0 = .ok (.aload_n 0, 1) := by decide +kernel
theorem dX11_shape_1 : decode cX11_shape 1 = .ok (.iload_n 1, 1) := by decide +kernel
theorem dX11_shape_2 : decode cX11_shape 2 = .ok (.iconst 1, 1) := by decide +kernel
theorem dX11_shape_3 : decode cX11_shape 3 = .ok (.bipush 40, 2) := by decide +kernel
theorem dX11_shape_5 : decode cX11_shape 5 = .ok (.invokestatic 216, 3) := by decide +kernel
theorem dX11_shape_8 : decode cX11_shape 8 = .ok (.ifCond .eq 7, 3) := by decide +kernel
theorem dX11_shape_11 : decode cX11_shape 11 = .ok (.iconst 0, 1) := by decide +kernel
theorem dX11_shape_12 : decode cX11_shape 12 = .ok (.goto 4, 3) := by decide +kernel
theorem dX11_shape_15 : decode cX11_shape 15 = .ok (.iconst 1, 1) := by decide +kernel
theorem dX11_shape_16 : decode cX11_shape 16 = .ok (.putfield 213, 3) := by decide +kernel
theorem dX11_shape_19 : decode cX11_shape 19 = .ok (.aload_n 0, 1) := by decide +kernel
theorem dX11_shape_20 : decode cX11_shape 20 = .ok (.getfield 213, 3) := by decide +kernel
theorem dX11_shape_23 : decode cX11_shape 23 = .ok (.ifCond .ne 13, 3) := by decide +kernel
theorem dX11_shape_26 : decode cX11_shape 26 = .ok (.aload_n 0, 1) := by decide +kernel
theorem dX11_shape_27 : decode cX11_shape 27 = .ok (.iload_n 1, 1) := by decide +kernel
theorem dX11_shape_28 : decode cX11_shape 28 = .ok (.putfield 98, 3) := by decide +kernel
theorem dX11_shape_31 : decode cX11_shape 31 = .ok (.aload_n 0, 1) := by decide +kernel
theorem dX11_shape_32 : decode cX11_shape 32 = .ok (.iload_n 2, 1) := by decide +kernel
theorem dX11_shape_33 : decode cX11_shape 33 = .ok (.putfield 317, 3) := by decide +kernel
theorem dX11_shape_36 : decode cX11_shape 36 = .ok (.return_, 1) := by decide +kernel
theorem dX11_clear_0 : decode cX11_clear 0 = .ok (.aload_n 0, 1) := by decide +kernel
theorem dX11_clear_1 : decode cX11_clear 1 = .ok (.iconst 0, 1) := by decide +kernel
theorem dX11_clear_2 : decode cX11_clear 2 = .ok (.putfield 213, 3) := by decide +kernel
theorem dX11_clear_5 : decode cX11_clear 5 = .ok (.aload_n 0, 1) := by decide +kernel
theorem dX11_clear_6 : decode cX11_clear 6 = .ok (.getfield 299, 3) := by decide +kernel
theorem dX11_clear_9 : decode cX11_clear 9 = .ok (.istore_n 1, 1) := by decide +kernel
theorem dX11_clear_10 : decode cX11_clear 10 = .ok (.aload_n 0, 1) := by decide +kernel
theorem dX11_clear_11 : decode cX11_clear 11 = .ok (.iconst 0, 1) := by decide +kernel
theorem dX11_clear_12 : decode cX11_clear 12 = .ok (.putfield 299, 3) := by decide +kernel
theorem dX11_clear_15 : decode cX11_clear 15 = .ok (.aload_n 0, 1) := by decide +kernel
theorem dX11_clear_16 : decode cX11_clear 16 = .ok (.iconst 0, 1) := by decide +kernel
theorem dX11_clear_17 : decode cX11_clear 17 = .ok (.putfield 308, 3) := by decide +kernel
theorem dX11_clear_20 : decode cX11_clear 20 = .ok (.aload_n 0, 1) := by decide +kernel
theorem dX11_clear_21 : decode cX11_clear 21 = .ok (.iconst 0, 1) := by decide +kernel
theorem dX11_clear_22 : decode cX11_clear 22 = .ok (.putfield 311, 3) := by decide +kernel
theorem dX11_clear_25 : decode cX11_clear 25 = .ok (.aload_n 0, 1) := by decide +kernel
theorem dX11_clear_26 : decode cX11_clear 26 = .ok (.iconst 0, 1) := by decide +kernel
theorem dX11_clear_27 : decode cX11_clear 27 = .ok (.putfield 314, 3) := by decide +kernel
theorem dX11_clear_30 : decode cX11_clear 30 = .ok (.aload_n 0, 1) := by decide +kernel
theorem dX11_clear_31 : decode cX11_clear 31 = .ok (.bipush 40, 2) := by decide +kernel
theorem dX11_clear_33 : decode cX11_clear 33 = .ok (.putfield 98, 3) := by decide +kernel
theorem dX11_clear_36 : decode cX11_clear 36 = .ok (.aload_n 0, 1) := by decide +kernel
theorem dX11_clear_37 : decode cX11_clear 37 = .ok (.iconst 0, 1) := by decide +kernel
theorem dX11_clear_38 : decode cX11_clear 38 = .ok (.putfield 317, 3) := by decide +kernel
theorem dX11_clear_41 : decode cX11_clear 41 = .ok (.iload_n 1, 1) := by decide +kernel
theorem dX11_clear_42 : decode cX11_clear 42 = .ok (.ireturn, 1) := by decide +kernel
theorem dX11_holds_0 : decode cX11_holds 0 = .ok (.iload_n 0, 1) := by decide +kernel
theorem dX11_holds_1 : decode cX11_holds 1 = .ok (.tableswitch 98 0 3 #[31, 49, 67, 85], 31) := by decide +kernel
theorem dX11_holds_32 : decode cX11_holds 32 = .ok (.iload_n 2, 1) := by decide +kernel
theorem dX11_holds_33 : decode cX11_holds 33 = .ok (.invokestatic 228, 3) := by decide +kernel
theorem dX11_holds_36 : decode cX11_holds 36 = .ok (.ifCond .eq 12, 3) := by decide +kernel
theorem dX11_holds_39 : decode cX11_holds 39 = .ok (.iload_n 2, 1) := by decide +kernel
theorem dX11_holds_40 : decode cX11_holds 40 = .ok (.iload_n 1, 1) := by decide +kernel
theorem dX11_holds_41 : decode cX11_holds 41 = .ok (.if_icmp .ne 7, 3) := by decide +kernel
theorem dX11_holds_44 : decode cX11_holds 44 = .ok (.iconst 1, 1) := by decide +kernel
theorem dX11_holds_45 : decode cX11_holds 45 = .ok (.goto 4, 3) := by decide +kernel
theorem dX11_holds_48 : decode cX11_holds 48 = .ok (.iconst 0, 1) := by decide +kernel
theorem dX11_holds_49 : decode cX11_holds 49 = .ok (.ireturn, 1) := by decide +kernel
theorem dX11_holds_50 : decode cX11_holds 50 = .ok (.iload_n 2, 1) := by decide +kernel
theorem dX11_holds_51 : decode cX11_holds 51 = .ok (.invokestatic 228, 3) := by decide +kernel
theorem dX11_holds_54 : decode cX11_holds 54 = .ok (.ifCond .eq 12, 3) := by decide +kernel
theorem dX11_holds_57 : decode cX11_holds 57 = .ok (.iload_n 2, 1) := by decide +kernel
theorem dX11_holds_58 : decode cX11_holds 58 = .ok (.iload_n 1, 1) := by decide +kernel
theorem dX11_holds_59 : decode cX11_holds 59 = .ok (.if_icmp .ge 7, 3) := by decide +kernel
theorem dX11_holds_62 : decode cX11_holds 62 = .ok (.iconst 1, 1) := by decide +kernel
theorem dX11_holds_63 : decode cX11_holds 63 = .ok (.goto 4, 3) := by decide +kernel
theorem dX11_holds_66 : decode cX11_holds 66 = .ok (.iconst 0, 1) := by decide +kernel
theorem dX11_holds_67 : decode cX11_holds 67 = .ok (.ireturn, 1) := by decide +kernel
theorem dX11_holds_68 : decode cX11_holds 68 = .ok (.iload_n 2, 1) := by decide +kernel
theorem dX11_holds_69 : decode cX11_holds 69 = .ok (.invokestatic 228, 3) := by decide +kernel
theorem dX11_holds_72 : decode cX11_holds 72 = .ok (.ifCond .eq 12, 3) := by decide +kernel
theorem dX11_holds_75 : decode cX11_holds 75 = .ok (.iload_n 2, 1) := by decide +kernel
theorem dX11_holds_76 : decode cX11_holds 76 = .ok (.iload_n 1, 1) := by decide +kernel
theorem dX11_holds_77 : decode cX11_holds 77 = .ok (.if_icmp .le 7, 3) := by decide +kernel
theorem dX11_holds_80 : decode cX11_holds 80 = .ok (.iconst 1, 1) := by decide +kernel
theorem dX11_holds_81 : decode cX11_holds 81 = .ok (.goto 4, 3) := by decide +kernel
theorem dX11_holds_84 : decode cX11_holds 84 = .ok (.iconst 0, 1) := by decide +kernel
theorem dX11_holds_85 : decode cX11_holds 85 = .ok (.ireturn, 1) := by decide +kernel
theorem dX11_holds_86 : decode cX11_holds 86 = .ok (.iload_n 2, 1) := by decide +kernel
theorem dX11_holds_87 : decode cX11_holds 87 = .ok (.sipush 5000, 3) := by decide +kernel
theorem dX11_holds_90 : decode cX11_holds 90 = .ok (.if_icmp .ne 7, 3) := by decide +kernel
theorem dX11_holds_93 : decode cX11_holds 93 = .ok (.iconst 1, 1) := by decide +kernel
theorem dX11_holds_94 : decode cX11_holds 94 = .ok (.goto 4, 3) := by decide +kernel
theorem dX11_holds_97 : decode cX11_holds 97 = .ok (.iconst 0, 1) := by decide +kernel
theorem dX11_holds_98 : decode cX11_holds 98 = .ok (.ireturn, 1) := by decide +kernel
theorem dX11_holds_99 : decode cX11_holds 99 = .ok (.iload_n 2, 1) := by decide +kernel
theorem dX11_holds_100 : decode cX11_holds 100 = .ok (.sipush 5001, 3) := by decide +kernel
theorem dX11_holds_103 : decode cX11_holds 103 = .ok (.if_icmp .ne 7, 3) := by decide +kernel
theorem dX11_holds_106 : decode cX11_holds 106 = .ok (.iconst 1, 1) := by decide +kernel
theorem dX11_holds_107 : decode cX11_holds 107 = .ok (.goto 4, 3) := by decide +kernel
theorem dX11_holds_110 : decode cX11_holds 110 = .ok (.iconst 0, 1) := by decide +kernel
theorem dX11_holds_111 : decode cX11_holds 111 = .ok (.ireturn, 1) := by decide +kernel
theorem dX11_canDo_0 : decode cX11_canDo 0 = .ok (.iload_n 0, 1) := by decide +kernel
theorem dX11_canDo_1 : decode cX11_canDo 1 = .ok (.ifCond .ne 14, 3) := by decide +kernel
theorem dX11_canDo_4 : decode cX11_canDo 4 = .ok (.iload_n 2, 1) := by decide +kernel
theorem dX11_canDo_5 : decode cX11_canDo 5 = .ok (.iconst 4, 1) := by decide +kernel
theorem dX11_canDo_6 : decode cX11_canDo 6 = .ok (.if_icmp .eq 7, 3) := by decide +kernel
theorem dX11_canDo_9 : decode cX11_canDo 9 = .ok (.iconst 1, 1) := by decide +kernel
theorem dX11_canDo_10 : decode cX11_canDo 10 = .ok (.goto 4, 3) := by decide +kernel
theorem dX11_canDo_13 : decode cX11_canDo 13 = .ok (.iconst 0, 1) := by decide +kernel
theorem dX11_canDo_14 : decode cX11_canDo 14 = .ok (.ireturn, 1) := by decide +kernel
theorem dX11_canDo_15 : decode cX11_canDo 15 = .ok (.iload_n 0, 1) := by decide +kernel
theorem dX11_canDo_16 : decode cX11_canDo 16 = .ok (.iconst 1, 1) := by decide +kernel
theorem dX11_canDo_17 : decode cX11_canDo 17 = .ok (.if_icmp .ne 18, 3) := by decide +kernel
theorem dX11_canDo_20 : decode cX11_canDo 20 = .ok (.iload_n 1, 1) := by decide +kernel
theorem dX11_canDo_21 : decode cX11_canDo 21 = .ok (.ifCond .ne 12, 3) := by decide +kernel
theorem dX11_canDo_24 : decode cX11_canDo 24 = .ok (.iload_n 2, 1) := by decide +kernel
theorem dX11_canDo_25 : decode cX11_canDo 25 = .ok (.iconst 2, 1) := by decide +kernel
theorem dX11_canDo_26 : decode cX11_canDo 26 = .ok (.if_icmp .gt 7, 3) := by decide +kernel
theorem dX11_canDo_29 : decode cX11_canDo 29 = .ok (.iconst 1, 1) := by decide +kernel
theorem dX11_canDo_30 : decode cX11_canDo 30 = .ok (.goto 4, 3) := by decide +kernel
theorem dX11_canDo_33 : decode cX11_canDo 33 = .ok (.iconst 0, 1) := by decide +kernel
theorem dX11_canDo_34 : decode cX11_canDo 34 = .ok (.ireturn, 1) := by decide +kernel
theorem dX11_canDo_35 : decode cX11_canDo 35 = .ok (.iload_n 2, 1) := by decide +kernel
theorem dX11_canDo_36 : decode cX11_canDo 36 = .ok (.ifCond .eq 17, 3) := by decide +kernel
theorem dX11_canDo_39 : decode cX11_canDo 39 = .ok (.iload_n 2, 1) := by decide +kernel
theorem dX11_canDo_40 : decode cX11_canDo 40 = .ok (.iconst 4, 1) := by decide +kernel
theorem dX11_canDo_41 : decode cX11_canDo 41 = .ok (.if_icmp .eq 12, 3) := by decide +kernel
theorem dX11_canDo_44 : decode cX11_canDo 44 = .ok (.iload_n 1, 1) := by decide +kernel
theorem dX11_canDo_45 : decode cX11_canDo 45 = .ok (.ifCond .ne 12, 3) := by decide +kernel
theorem dX11_canDo_48 : decode cX11_canDo 48 = .ok (.iload_n 2, 1) := by decide +kernel
theorem dX11_canDo_49 : decode cX11_canDo 49 = .ok (.iconst 2, 1) := by decide +kernel
theorem dX11_canDo_50 : decode cX11_canDo 50 = .ok (.if_icmp .gt 7, 3) := by decide +kernel
theorem dX11_canDo_53 : decode cX11_canDo 53 = .ok (.iconst 1, 1) := by decide +kernel
theorem dX11_canDo_54 : decode cX11_canDo 54 = .ok (.goto 4, 3) := by decide +kernel
theorem dX11_canDo_57 : decode cX11_canDo 57 = .ok (.iconst 0, 1) := by decide +kernel
theorem dX11_canDo_58 : decode cX11_canDo 58 = .ok (.ireturn, 1) := by decide +kernel
theorem dX11_isSent_0 : decode cX11_isSent 0 = .ok (.aload_n 0, 1) := by decide +kernel
theorem dX11_isSent_1 : decode cX11_isSent 1 = .ok (.getfield 80, 3) := by decide +kernel
theorem dX11_isSent_4 : decode cX11_isSent 4 = .ok (.iload_n 1, 1) := by decide +kernel
theorem dX11_isSent_5 : decode cX11_isSent 5 = .ok (.iaload, 1) := by decide +kernel
theorem dX11_isSent_6 : decode cX11_isSent 6 = .ok (.iload_n 2, 1) := by decide +kernel
theorem dX11_isSent_7 : decode cX11_isSent 7 = .ok (.if_icmp .ne 34, 3) := by decide +kernel
theorem dX11_isSent_10 : decode cX11_isSent 10 = .ok (.aload_n 0, 1) := by decide +kernel
theorem dX11_isSent_11 : decode cX11_isSent 11 = .ok (.getfield 65, 3) := by decide +kernel
theorem dX11_isSent_14 : decode cX11_isSent 14 = .ok (.iload_n 2, 1) := by decide +kernel
theorem dX11_isSent_15 : decode cX11_isSent 15 = .ok (.iaload, 1) := by decide +kernel
theorem dX11_isSent_16 : decode cX11_isSent 16 = .ok (.invokestatic 220, 3) := by decide +kernel
theorem dX11_isSent_19 : decode cX11_isSent 19 = .ok (.aload_n 0, 1) := by decide +kernel
theorem dX11_isSent_20 : decode cX11_isSent 20 = .ok (.getfield 83, 3) := by decide +kernel
theorem dX11_isSent_23 : decode cX11_isSent 23 = .ok (.iload_n 1, 1) := by decide +kernel
theorem dX11_isSent_24 : decode cX11_isSent 24 = .ok (.iaload, 1) := by decide +kernel
theorem dX11_isSent_25 : decode cX11_isSent 25 = .ok (.aload_n 0, 1) := by decide +kernel
theorem dX11_isSent_26 : decode cX11_isSent 26 = .ok (.getfield 86, 3) := by decide +kernel
theorem dX11_isSent_29 : decode cX11_isSent 29 = .ok (.iload_n 1, 1) := by decide +kernel
theorem dX11_isSent_30 : decode cX11_isSent 30 = .ok (.iaload, 1) := by decide +kernel
theorem dX11_isSent_31 : decode cX11_isSent 31 = .ok (.invokestatic 321, 3) := by decide +kernel
theorem dX11_isSent_34 : decode cX11_isSent 34 = .ok (.ifCond .eq 7, 3) := by decide +kernel
theorem dX11_isSent_37 : decode cX11_isSent 37 = .ok (.iconst 1, 1) := by decide +kernel
theorem dX11_isSent_38 : decode cX11_isSent 38 = .ok (.goto 4, 3) := by decide +kernel
theorem dX11_isSent_41 : decode cX11_isSent 41 = .ok (.iconst 0, 1) := by decide +kernel
theorem dX11_isSent_42 : decode cX11_isSent 42 = .ok (.ireturn, 1) := by decide +kernel
theorem dX11_manySent_0 : decode cX11_manySent 0 = .ok (.iconst 0, 1) := by decide +kernel
theorem dX11_manySent_1 : decode cX11_manySent 1 = .ok (.istore_n 2, 1) := by decide +kernel
theorem dX11_manySent_2 : decode cX11_manySent 2 = .ok (.iconst 0, 1) := by decide +kernel
theorem dX11_manySent_3 : decode cX11_manySent 3 = .ok (.istore_n 3, 1) := by decide +kernel
theorem dX11_manySent_4 : decode cX11_manySent 4 = .ok (.iload_n 3, 1) := by decide +kernel
theorem dX11_manySent_5 : decode cX11_manySent 5 = .ok (.aload_n 0, 1) := by decide +kernel
theorem dX11_manySent_6 : decode cX11_manySent 6 = .ok (.getfield 311, 3) := by decide +kernel
theorem dX11_manySent_9 : decode cX11_manySent 9 = .ok (.if_icmp .ge 26, 3) := by decide +kernel
theorem dX11_manySent_12 : decode cX11_manySent 12 = .ok (.iload_n 2, 1) := by decide +kernel
theorem dX11_manySent_13 : decode cX11_manySent 13 = .ok (.aload_n 0, 1) := by decide +kernel
theorem dX11_manySent_14 : decode cX11_manySent 14 = .ok (.iload_n 3, 1) := by decide +kernel
theorem dX11_manySent_15 : decode cX11_manySent 15 = .ok (.iload_n 1, 1) := by decide +kernel
theorem dX11_manySent_16 : decode cX11_manySent 16 = .ok (.invokevirtual 324, 3) := by decide +kernel
theorem dX11_manySent_19 : decode cX11_manySent 19 = .ok (.ifCond .eq 7, 3) := by decide +kernel
theorem dX11_manySent_22 : decode cX11_manySent 22 = .ok (.iconst 1, 1) := by decide +kernel
theorem dX11_manySent_23 : decode cX11_manySent 23 = .ok (.goto 4, 3) := by decide +kernel
theorem dX11_manySent_26 : decode cX11_manySent 26 = .ok (.iconst 0, 1) := by decide +kernel
theorem dX11_manySent_27 : decode cX11_manySent 27 = .ok (.iadd, 1) := by decide +kernel
theorem dX11_manySent_28 : decode cX11_manySent 28 = .ok (.istore_n 2, 1) := by decide +kernel
theorem dX11_manySent_29 : decode cX11_manySent 29 = .ok (.iinc 3 1, 3) := by decide +kernel
theorem dX11_manySent_32 : decode cX11_manySent 32 = .ok (.goto (-28), 3) := by decide +kernel
theorem dX11_manySent_35 : decode cX11_manySent 35 = .ok (.iload_n 2, 1) := by decide +kernel
theorem dX11_manySent_36 : decode cX11_manySent 36 = .ok (.ireturn, 1) := by decide +kernel
theorem dX11_holdSent_0 : decode cX11_holdSent 0 = .ok (.iconst 1, 1) := by decide +kernel
theorem dX11_holdSent_1 : decode cX11_holdSent 1 = .ok (.istore_n 3, 1) := by decide +kernel
theorem dX11_holdSent_2 : decode cX11_holdSent 2 = .ok (.iconst 0, 1) := by decide +kernel
theorem dX11_holdSent_3 : decode cX11_holdSent 3 = .ok (.istore 4, 2) := by decide +kernel
theorem dX11_holdSent_5 : decode cX11_holdSent 5 = .ok (.iload 4, 2) := by decide +kernel
theorem dX11_holdSent_7 : decode cX11_holdSent 7 = .ok (.aload_n 0, 1) := by decide +kernel
theorem dX11_holdSent_8 : decode cX11_holdSent 8 = .ok (.getfield 311, 3) := by decide +kernel
theorem dX11_holdSent_11 : decode cX11_holdSent 11 = .ok (.if_icmp .ge 79, 3) := by decide +kernel
theorem dX11_holdSent_14 : decode cX11_holdSent 14 = .ok (.iconst 4, 1) := by decide +kernel
theorem dX11_holdSent_15 : decode cX11_holdSent 15 = .ok (.bipush 12, 2) := by decide +kernel
theorem dX11_holdSent_17 : decode cX11_holdSent 17 = .ok (.aload_n 0, 1) := by decide +kernel
theorem dX11_holdSent_18 : decode cX11_holdSent 18 = .ok (.getfield 65, 3) := by decide +kernel
theorem dX11_holdSent_21 : decode cX11_holdSent 21 = .ok (.iload_n 1, 1) := by decide +kernel
theorem dX11_holdSent_22 : decode cX11_holdSent 22 = .ok (.iaload, 1) := by decide +kernel
theorem dX11_holdSent_23 : decode cX11_holdSent 23 = .ok (.imul, 1) := by decide +kernel
theorem dX11_holdSent_24 : decode cX11_holdSent 24 = .ok (.iload_n 2, 1) := by decide +kernel
theorem dX11_holdSent_25 : decode cX11_holdSent 25 = .ok (.iadd, 1) := by decide +kernel
theorem dX11_holdSent_26 : decode cX11_holdSent 26 = .ok (.imul, 1) := by decide +kernel
theorem dX11_holdSent_27 : decode cX11_holdSent 27 = .ok (.aload_n 0, 1) := by decide +kernel
theorem dX11_holdSent_28 : decode cX11_holdSent 28 = .ok (.getfield 83, 3) := by decide +kernel
theorem dX11_holdSent_31 : decode cX11_holdSent 31 = .ok (.iload 4, 2) := by decide +kernel
theorem dX11_holdSent_33 : decode cX11_holdSent 33 = .ok (.iaload, 1) := by decide +kernel
theorem dX11_holdSent_34 : decode cX11_holdSent 34 = .ok (.iadd, 1) := by decide +kernel
theorem dX11_holdSent_35 : decode cX11_holdSent 35 = .ok (.istore 5, 2) := by decide +kernel
theorem dX11_holdSent_37 : decode cX11_holdSent 37 = .ok (.iload_n 3, 1) := by decide +kernel
theorem dX11_holdSent_38 : decode cX11_holdSent 38 = .ok (.ifCond .eq 44, 3) := by decide +kernel
theorem dX11_holdSent_41 : decode cX11_holdSent 41 = .ok (.aload_n 0, 1) := by decide +kernel
theorem dX11_holdSent_42 : decode cX11_holdSent 42 = .ok (.iload 4, 2) := by decide +kernel
theorem dX11_holdSent_44 : decode cX11_holdSent 44 = .ok (.iload_n 1, 1) := by decide +kernel
theorem dX11_holdSent_45 : decode cX11_holdSent 45 = .ok (.invokevirtual 324, 3) := by decide +kernel
theorem dX11_holdSent_48 : decode cX11_holdSent 48 = .ok (.ifCond .eq 30, 3) := by decide +kernel
theorem dX11_holdSent_51 : decode cX11_holdSent 51 = .ok (.aload_n 0, 1) := by decide +kernel
theorem dX11_holdSent_52 : decode cX11_holdSent 52 = .ok (.getfield 86, 3) := by decide +kernel
theorem dX11_holdSent_55 : decode cX11_holdSent 55 = .ok (.iload 4, 2) := by decide +kernel
theorem dX11_holdSent_57 : decode cX11_holdSent 57 = .ok (.iaload, 1) := by decide +kernel
theorem dX11_holdSent_58 : decode cX11_holdSent 58 = .ok (.aload_n 0, 1) := by decide +kernel
theorem dX11_holdSent_59 : decode cX11_holdSent 59 = .ok (.getfield 89, 3) := by decide +kernel
theorem dX11_holdSent_62 : decode cX11_holdSent 62 = .ok (.iload 4, 2) := by decide +kernel
theorem dX11_holdSent_64 : decode cX11_holdSent 64 = .ok (.iaload, 1) := by decide +kernel
theorem dX11_holdSent_65 : decode cX11_holdSent 65 = .ok (.aload_n 0, 1) := by decide +kernel
theorem dX11_holdSent_66 : decode cX11_holdSent 66 = .ok (.getfield 16, 3) := by decide +kernel
theorem dX11_holdSent_69 : decode cX11_holdSent 69 = .ok (.iload 5, 2) := by decide +kernel
theorem dX11_holdSent_71 : decode cX11_holdSent 71 = .ok (.iaload, 1) := by decide +kernel
theorem dX11_holdSent_72 : decode cX11_holdSent 72 = .ok (.invokestatic 327, 3) := by decide +kernel
theorem dX11_holdSent_75 : decode cX11_holdSent 75 = .ok (.ifCond .eq 7, 3) := by decide +kernel
theorem dX11_holdSent_78 : decode cX11_holdSent 78 = .ok (.iconst 1, 1) := by decide +kernel
theorem dX11_holdSent_79 : decode cX11_holdSent 79 = .ok (.goto 4, 3) := by decide +kernel
theorem dX11_holdSent_82 : decode cX11_holdSent 82 = .ok (.iconst 0, 1) := by decide +kernel
theorem dX11_holdSent_83 : decode cX11_holdSent 83 = .ok (.istore_n 3, 1) := by decide +kernel
theorem dX11_holdSent_84 : decode cX11_holdSent 84 = .ok (.iinc 4 1, 3) := by decide +kernel
theorem dX11_holdSent_87 : decode cX11_holdSent 87 = .ok (.goto (-82), 3) := by decide +kernel
theorem dX11_holdSent_90 : decode cX11_holdSent 90 = .ok (.iload_n 3, 1) := by decide +kernel
theorem dX11_holdSent_91 : decode cX11_holdSent 91 = .ok (.ireturn, 1) := by decide +kernel
theorem dX11_holdHere_0 : decode cX11_holdHere 0 = .ok (.iconst 1, 1) := by decide +kernel
theorem dX11_holdHere_1 : decode cX11_holdHere 1 = .ok (.istore_n 3, 1) := by decide +kernel
theorem dX11_holdHere_2 : decode cX11_holdHere 2 = .ok (.iconst 0, 1) := by decide +kernel
theorem dX11_holdHere_3 : decode cX11_holdHere 3 = .ok (.istore 4, 2) := by decide +kernel
theorem dX11_holdHere_5 : decode cX11_holdHere 5 = .ok (.iload 4, 2) := by decide +kernel
theorem dX11_holdHere_7 : decode cX11_holdHere 7 = .ok (.aload_n 0, 1) := by decide +kernel
theorem dX11_holdHere_8 : decode cX11_holdHere 8 = .ok (.getfield 311, 3) := by decide +kernel
theorem dX11_holdHere_11 : decode cX11_holdHere 11 = .ok (.if_icmp .ge 75, 3) := by decide +kernel
theorem dX11_holdHere_14 : decode cX11_holdHere 14 = .ok (.iconst 4, 1) := by decide +kernel
theorem dX11_holdHere_15 : decode cX11_holdHere 15 = .ok (.bipush 12, 2) := by decide +kernel
theorem dX11_holdHere_17 : decode cX11_holdHere 17 = .ok (.iload_n 1, 1) := by decide +kernel
theorem dX11_holdHere_18 : decode cX11_holdHere 18 = .ok (.imul, 1) := by decide +kernel
theorem dX11_holdHere_19 : decode cX11_holdHere 19 = .ok (.iload_n 2, 1) := by decide +kernel
theorem dX11_holdHere_20 : decode cX11_holdHere 20 = .ok (.iadd, 1) := by decide +kernel
theorem dX11_holdHere_21 : decode cX11_holdHere 21 = .ok (.imul, 1) := by decide +kernel
theorem dX11_holdHere_22 : decode cX11_holdHere 22 = .ok (.aload_n 0, 1) := by decide +kernel
theorem dX11_holdHere_23 : decode cX11_holdHere 23 = .ok (.getfield 83, 3) := by decide +kernel
theorem dX11_holdHere_26 : decode cX11_holdHere 26 = .ok (.iload 4, 2) := by decide +kernel
theorem dX11_holdHere_28 : decode cX11_holdHere 28 = .ok (.iaload, 1) := by decide +kernel
theorem dX11_holdHere_29 : decode cX11_holdHere 29 = .ok (.iadd, 1) := by decide +kernel
theorem dX11_holdHere_30 : decode cX11_holdHere 30 = .ok (.istore 5, 2) := by decide +kernel
theorem dX11_holdHere_32 : decode cX11_holdHere 32 = .ok (.iload_n 3, 1) := by decide +kernel
theorem dX11_holdHere_33 : decode cX11_holdHere 33 = .ok (.ifCond .eq 45, 3) := by decide +kernel
theorem dX11_holdHere_36 : decode cX11_holdHere 36 = .ok (.aload_n 0, 1) := by decide +kernel
theorem dX11_holdHere_37 : decode cX11_holdHere 37 = .ok (.getfield 80, 3) := by decide +kernel
theorem dX11_holdHere_40 : decode cX11_holdHere 40 = .ok (.iload 4, 2) := by decide +kernel
theorem dX11_holdHere_42 : decode cX11_holdHere 42 = .ok (.iaload, 1) := by decide +kernel
theorem dX11_holdHere_43 : decode cX11_holdHere 43 = .ok (.iload_n 1, 1) := by decide +kernel
theorem dX11_holdHere_44 : decode cX11_holdHere 44 = .ok (.if_icmp .ne 30, 3) := by decide +kernel
theorem dX11_holdHere_47 : decode cX11_holdHere 47 = .ok (.aload_n 0, 1) := by decide +kernel
theorem dX11_holdHere_48 : decode cX11_holdHere 48 = .ok (.getfield 86, 3) := by decide +kernel
theorem dX11_holdHere_51 : decode cX11_holdHere 51 = .ok (.iload 4, 2) := by decide +kernel
theorem dX11_holdHere_53 : decode cX11_holdHere 53 = .ok (.iaload, 1) := by decide +kernel
theorem dX11_holdHere_54 : decode cX11_holdHere 54 = .ok (.aload_n 0, 1) := by decide +kernel
theorem dX11_holdHere_55 : decode cX11_holdHere 55 = .ok (.getfield 89, 3) := by decide +kernel
theorem dX11_holdHere_58 : decode cX11_holdHere 58 = .ok (.iload 4, 2) := by decide +kernel
theorem dX11_holdHere_60 : decode cX11_holdHere 60 = .ok (.iaload, 1) := by decide +kernel
theorem dX11_holdHere_61 : decode cX11_holdHere 61 = .ok (.aload_n 0, 1) := by decide +kernel
theorem dX11_holdHere_62 : decode cX11_holdHere 62 = .ok (.getfield 147, 3) := by decide +kernel
theorem dX11_holdHere_65 : decode cX11_holdHere 65 = .ok (.iload 5, 2) := by decide +kernel
theorem dX11_holdHere_67 : decode cX11_holdHere 67 = .ok (.iaload, 1) := by decide +kernel
theorem dX11_holdHere_68 : decode cX11_holdHere 68 = .ok (.invokestatic 327, 3) := by decide +kernel
theorem dX11_holdHere_71 : decode cX11_holdHere 71 = .ok (.ifCond .eq 7, 3) := by decide +kernel
theorem dX11_holdHere_74 : decode cX11_holdHere 74 = .ok (.iconst 1, 1) := by decide +kernel
theorem dX11_holdHere_75 : decode cX11_holdHere 75 = .ok (.goto 4, 3) := by decide +kernel
theorem dX11_holdHere_78 : decode cX11_holdHere 78 = .ok (.iconst 0, 1) := by decide +kernel
theorem dX11_holdHere_79 : decode cX11_holdHere 79 = .ok (.istore_n 3, 1) := by decide +kernel
theorem dX11_holdHere_80 : decode cX11_holdHere 80 = .ok (.iinc 4 1, 3) := by decide +kernel
theorem dX11_holdHere_83 : decode cX11_holdHere 83 = .ok (.goto (-78), 3) := by decide +kernel
theorem dX11_holdHere_86 : decode cX11_holdHere 86 = .ok (.iload_n 3, 1) := by decide +kernel
theorem dX11_holdHere_87 : decode cX11_holdHere 87 = .ok (.ireturn, 1) := by decide +kernel
theorem dX11_tries_0 : decode cX11_tries 0 = .ok (.aload_n 0, 1) := by decide +kernel
theorem dX11_tries_1 : decode cX11_tries 1 = .ok (.getfield 47, 3) := by decide +kernel
theorem dX11_tries_4 : decode cX11_tries 4 = .ok (.iload_n 1, 1) := by decide +kernel
theorem dX11_tries_5 : decode cX11_tries 5 = .ok (.iaload, 1) := by decide +kernel
theorem dX11_tries_6 : decode cX11_tries 6 = .ok (.aload_n 0, 1) := by decide +kernel
theorem dX11_tries_7 : decode cX11_tries 7 = .ok (.getfield 235, 3) := by decide +kernel
theorem dX11_tries_10 : decode cX11_tries 10 = .ok (.bipush 10, 2) := by decide +kernel
theorem dX11_tries_12 : decode cX11_tries 12 = .ok (.idiv, 1) := by decide +kernel
theorem dX11_tries_13 : decode cX11_tries 13 = .ok (.if_icmp .ne 32, 3) := by decide +kernel
theorem dX11_tries_16 : decode cX11_tries 16 = .ok (.aload_n 0, 1) := by decide +kernel
theorem dX11_tries_17 : decode cX11_tries 17 = .ok (.getfield 50, 3) := by decide +kernel
theorem dX11_tries_20 : decode cX11_tries 20 = .ok (.iload_n 1, 1) := by decide +kernel
theorem dX11_tries_21 : decode cX11_tries 21 = .ok (.iaload, 1) := by decide +kernel
theorem dX11_tries_22 : decode cX11_tries 22 = .ok (.aload_n 0, 1) := by decide +kernel
theorem dX11_tries_23 : decode cX11_tries 23 = .ok (.getfield 31, 3) := by decide +kernel
theorem dX11_tries_26 : decode cX11_tries 26 = .ok (.iload_n 1, 1) := by decide +kernel
theorem dX11_tries_27 : decode cX11_tries 27 = .ok (.iaload, 1) := by decide +kernel
theorem dX11_tries_28 : decode cX11_tries 28 = .ok (.if_icmp .lt 17, 3) := by decide +kernel
theorem dX11_tries_31 : decode cX11_tries 31 = .ok (.aload_n 0, 1) := by decide +kernel
theorem dX11_tries_32 : decode cX11_tries 32 = .ok (.bipush 10, 2) := by decide +kernel
theorem dX11_tries_34 : decode cX11_tries 34 = .ok (.aload_n 0, 1) := by decide +kernel
theorem dX11_tries_35 : decode cX11_tries 35 = .ok (.getfield 235, 3) := by decide +kernel
theorem dX11_tries_38 : decode cX11_tries 38 = .ok (.bipush 10, 2) := by decide +kernel
theorem dX11_tries_40 : decode cX11_tries 40 = .ok (.irem, 1) := by decide +kernel
theorem dX11_tries_41 : decode cX11_tries 41 = .ok (.isub, 1) := by decide +kernel
theorem dX11_tries_42 : decode cX11_tries 42 = .ok (.invokevirtual 296, 3) := by decide +kernel
theorem dX11_tries_45 : decode cX11_tries 45 = .ok (.iload_n 2, 1) := by decide +kernel
theorem dX11_tries_46 : decode cX11_tries 46 = .ok (.ifCond .eq 21, 3) := by decide +kernel
theorem dX11_tries_49 : decode cX11_tries 49 = .ok (.aload_n 0, 1) := by decide +kernel
theorem dX11_tries_50 : decode cX11_tries 50 = .ok (.getfield 235, 3) := by decide +kernel
theorem dX11_tries_53 : decode cX11_tries 53 = .ok (.aload_n 0, 1) := by decide +kernel
theorem dX11_tries_54 : decode cX11_tries 54 = .ok (.getfield 330, 3) := by decide +kernel
theorem dX11_tries_57 : decode cX11_tries 57 = .ok (.isub, 1) := by decide +kernel
theorem dX11_tries_58 : decode cX11_tries 58 = .ok (.aload_n 0, 1) := by decide +kernel
theorem dX11_tries_59 : decode cX11_tries 59 = .ok (.getfield 333, 3) := by decide +kernel
theorem dX11_tries_62 : decode cX11_tries 62 = .ok (.if_icmp .le 5, 3) := by decide +kernel
theorem dX11_tries_65 : decode cX11_tries 65 = .ok (.iconst 0, 1) := by decide +kernel
theorem dX11_tries_66 : decode cX11_tries 66 = .ok (.ireturn, 1) := by decide +kernel
theorem dX11_tries_67 : decode cX11_tries 67 = .ok (.aload_n 0, 1) := by decide +kernel
theorem dX11_tries_68 : decode cX11_tries 68 = .ok (.getfield 50, 3) := by decide +kernel
theorem dX11_tries_71 : decode cX11_tries 71 = .ok (.iload_n 1, 1) := by decide +kernel
theorem dX11_tries_72 : decode cX11_tries 72 = .ok (.aload_n 0, 1) := by decide +kernel
theorem dX11_tries_73 : decode cX11_tries 73 = .ok (.getfield 47, 3) := by decide +kernel
theorem dX11_tries_76 : decode cX11_tries 76 = .ok (.iload_n 1, 1) := by decide +kernel
theorem dX11_tries_77 : decode cX11_tries 77 = .ok (.iaload, 1) := by decide +kernel
theorem dX11_tries_78 : decode cX11_tries 78 = .ok (.aload_n 0, 1) := by decide +kernel
theorem dX11_tries_79 : decode cX11_tries 79 = .ok (.getfield 235, 3) := by decide +kernel
theorem dX11_tries_82 : decode cX11_tries 82 = .ok (.bipush 10, 2) := by decide +kernel
theorem dX11_tries_84 : decode cX11_tries 84 = .ok (.idiv, 1) := by decide +kernel
theorem dX11_tries_85 : decode cX11_tries 85 = .ok (.if_icmp .ne 14, 3) := by decide +kernel
theorem dX11_tries_88 : decode cX11_tries 88 = .ok (.aload_n 0, 1) := by decide +kernel
theorem dX11_tries_89 : decode cX11_tries 89 = .ok (.getfield 50, 3) := by decide +kernel
theorem dX11_tries_92 : decode cX11_tries 92 = .ok (.iload_n 1, 1) := by decide +kernel
theorem dX11_tries_93 : decode cX11_tries 93 = .ok (.iaload, 1) := by decide +kernel
theorem dX11_tries_94 : decode cX11_tries 94 = .ok (.iconst 1, 1) := by decide +kernel
theorem dX11_tries_95 : decode cX11_tries 95 = .ok (.iadd, 1) := by decide +kernel
theorem dX11_tries_96 : decode cX11_tries 96 = .ok (.goto 4, 3) := by decide +kernel
theorem dX11_tries_99 : decode cX11_tries 99 = .ok (.iconst 1, 1) := by decide +kernel
theorem dX11_tries_100 : decode cX11_tries 100 = .ok (.iastore, 1) := by decide +kernel
theorem dX11_tries_101 : decode cX11_tries 101 = .ok (.aload_n 0, 1) := by decide +kernel
theorem dX11_tries_102 : decode cX11_tries 102 = .ok (.getfield 47, 3) := by decide +kernel
theorem dX11_tries_105 : decode cX11_tries 105 = .ok (.iload_n 1, 1) := by decide +kernel
theorem dX11_tries_106 : decode cX11_tries 106 = .ok (.aload_n 0, 1) := by decide +kernel
theorem dX11_tries_107 : decode cX11_tries 107 = .ok (.getfield 235, 3) := by decide +kernel
theorem dX11_tries_110 : decode cX11_tries 110 = .ok (.bipush 10, 2) := by decide +kernel
theorem dX11_tries_112 : decode cX11_tries 112 = .ok (.idiv, 1) := by decide +kernel
theorem dX11_tries_113 : decode cX11_tries 113 = .ok (.iastore, 1) := by decide +kernel
theorem dX11_tries_114 : decode cX11_tries 114 = .ok (.aload_n 0, 1) := by decide +kernel
theorem dX11_tries_115 : decode cX11_tries 115 = .ok (.aload_n 0, 1) := by decide +kernel
theorem dX11_tries_116 : decode cX11_tries 116 = .ok (.getfield 25, 3) := by decide +kernel
theorem dX11_tries_119 : decode cX11_tries 119 = .ok (.iload_n 1, 1) := by decide +kernel
theorem dX11_tries_120 : decode cX11_tries 120 = .ok (.iaload, 1) := by decide +kernel
theorem dX11_tries_121 : decode cX11_tries 121 = .ok (.invokevirtual 296, 3) := by decide +kernel
theorem dX11_tries_124 : decode cX11_tries 124 = .ok (.iload_n 2, 1) := by decide +kernel
theorem dX11_tries_125 : decode cX11_tries 125 = .ok (.ifCond .eq 23, 3) := by decide +kernel
theorem dX11_tries_128 : decode cX11_tries 128 = .ok (.aload_n 0, 1) := by decide +kernel
theorem dX11_tries_129 : decode cX11_tries 129 = .ok (.dup, 1) := by decide +kernel
theorem dX11_tries_130 : decode cX11_tries 130 = .ok (.getfield 336, 3) := by decide +kernel
theorem dX11_tries_133 : decode cX11_tries 133 = .ok (.iconst 1, 1) := by decide +kernel
theorem dX11_tries_134 : decode cX11_tries 134 = .ok (.iadd, 1) := by decide +kernel
theorem dX11_tries_135 : decode cX11_tries 135 = .ok (.putfield 336, 3) := by decide +kernel
theorem dX11_tries_138 : decode cX11_tries 138 = .ok (.aload_n 0, 1) := by decide +kernel
theorem dX11_tries_139 : decode cX11_tries 139 = .ok (.aload_n 0, 1) := by decide +kernel
theorem dX11_tries_140 : decode cX11_tries 140 = .ok (.getfield 53, 3) := by decide +kernel
theorem dX11_tries_143 : decode cX11_tries 143 = .ok (.iload_n 1, 1) := by decide +kernel
theorem dX11_tries_144 : decode cX11_tries 144 = .ok (.iaload, 1) := by decide +kernel
theorem dX11_tries_145 : decode cX11_tries 145 = .ok (.invokevirtual 339, 3) := by decide +kernel
theorem dX11_tries_148 : decode cX11_tries 148 = .ok (.aload_n 0, 1) := by decide +kernel
theorem dX11_tries_149 : decode cX11_tries 149 = .ok (.getfield 40, 3) := by decide +kernel
theorem dX11_tries_152 : decode cX11_tries 152 = .ok (.iload_n 1, 1) := by decide +kernel
theorem dX11_tries_153 : decode cX11_tries 153 = .ok (.iaload, 1) := by decide +kernel
theorem dX11_tries_154 : decode cX11_tries 154 = .ok (.ifCond .le 15, 3) := by decide +kernel
theorem dX11_tries_157 : decode cX11_tries 157 = .ok (.aload_n 0, 1) := by decide +kernel
theorem dX11_tries_158 : decode cX11_tries 158 = .ok (.getfield 40, 3) := by decide +kernel
theorem dX11_tries_161 : decode cX11_tries 161 = .ok (.iload_n 1, 1) := by decide +kernel
theorem dX11_tries_162 : decode cX11_tries 162 = .ok (.dup2, 1) := by decide +kernel
theorem dX11_tries_163 : decode cX11_tries 163 = .ok (.iaload, 1) := by decide +kernel
theorem dX11_tries_164 : decode cX11_tries 164 = .ok (.iconst 1, 1) := by decide +kernel
theorem dX11_tries_165 : decode cX11_tries 165 = .ok (.isub, 1) := by decide +kernel
theorem dX11_tries_166 : decode cX11_tries 166 = .ok (.iastore, 1) := by decide +kernel
theorem dX11_tries_167 : decode cX11_tries 167 = .ok (.iconst 1, 1) := by decide +kernel
theorem dX11_tries_168 : decode cX11_tries 168 = .ok (.ireturn, 1) := by decide +kernel
theorem dX11_tries_169 : decode cX11_tries 169 = .ok (.iconst 2, 1) := by decide +kernel
theorem dX11_tries_170 : decode cX11_tries 170 = .ok (.ireturn, 1) := by decide +kernel
theorem dX11_pays_0 : decode cX11_pays 0 = .ok (.aload_n 0, 1) := by decide +kernel
theorem dX11_pays_1 : decode cX11_pays 1 = .ok (.dup, 1) := by decide +kernel
theorem dX11_pays_2 : decode cX11_pays 2 = .ok (.getfield 342, 3) := by decide +kernel
theorem dX11_pays_5 : decode cX11_pays 5 = .ok (.iload_n 1, 1) := by decide +kernel
theorem dX11_pays_6 : decode cX11_pays 6 = .ok (.iadd, 1) := by decide +kernel
theorem dX11_pays_7 : decode cX11_pays 7 = .ok (.putfield 342, 3) := by decide +kernel
theorem dX11_pays_10 : decode cX11_pays 10 = .ok (.aload_n 0, 1) := by decide +kernel
theorem dX11_pays_11 : decode cX11_pays 11 = .ok (.dup, 1) := by decide +kernel
theorem dX11_pays_12 : decode cX11_pays 12 = .ok (.getfield 345, 3) := by decide +kernel
theorem dX11_pays_15 : decode cX11_pays 15 = .ok (.iload_n 1, 1) := by decide +kernel
theorem dX11_pays_16 : decode cX11_pays 16 = .ok (.iadd, 1) := by decide +kernel
theorem dX11_pays_17 : decode cX11_pays 17 = .ok (.putfield 345, 3) := by decide +kernel
theorem dX11_pays_20 : decode cX11_pays 20 = .ok (.return_, 1) := by decide +kernel
theorem dX11_requests_0 : decode cX11_requests 0 = .ok (.iconst 1, 1) := by decide +kernel
theorem dX11_requests_1 : decode cX11_requests 1 = .ok (.istore_n 2, 1) := by decide +kernel
theorem dX11_requests_2 : decode cX11_requests 2 = .ok (.iconst 0, 1) := by decide +kernel
theorem dX11_requests_3 : decode cX11_requests 3 = .ok (.istore_n 3, 1) := by decide +kernel
theorem dX11_requests_4 : decode cX11_requests 4 = .ok (.iload_n 3, 1) := by decide +kernel
theorem dX11_requests_5 : decode cX11_requests 5 = .ok (.iconst 3, 1) := by decide +kernel
theorem dX11_requests_6 : decode cX11_requests 6 = .ok (.if_icmp .ge 21, 3) := by decide +kernel
theorem dX11_requests_9 : decode cX11_requests 9 = .ok (.iload_n 2, 1) := by decide +kernel
theorem dX11_requests_10 : decode cX11_requests 10 = .ok (.iconst 1, 1) := by decide +kernel
theorem dX11_requests_11 : decode cX11_requests 11 = .ok (.if_icmp .ne 16, 3) := by decide +kernel
theorem dX11_requests_14 : decode cX11_requests 14 = .ok (.aload_n 0, 1) := by decide +kernel
theorem dX11_requests_15 : decode cX11_requests 15 = .ok (.iload_n 1, 1) := by decide +kernel
theorem dX11_requests_16 : decode cX11_requests 16 = .ok (.iconst 1, 1) := by decide +kernel
theorem dX11_requests_17 : decode cX11_requests 17 = .ok (.invokevirtual 348, 3) := by decide +kernel
theorem dX11_requests_20 : decode cX11_requests 20 = .ok (.istore_n 2, 1) := by decide +kernel
theorem dX11_requests_21 : decode cX11_requests 21 = .ok (.iinc 3 1, 3) := by decide +kernel
theorem dX11_requests_24 : decode cX11_requests 24 = .ok (.goto (-20), 3) := by decide +kernel
theorem dX11_requests_27 : decode cX11_requests 27 = .ok (.iload_n 2, 1) := by decide +kernel
theorem dX11_requests_28 : decode cX11_requests 28 = .ok (.iconst 2, 1) := by decide +kernel
theorem dX11_requests_29 : decode cX11_requests 29 = .ok (.if_icmp .ne 7, 3) := by decide +kernel
theorem dX11_requests_32 : decode cX11_requests 32 = .ok (.iconst 1, 1) := by decide +kernel
theorem dX11_requests_33 : decode cX11_requests 33 = .ok (.goto 4, 3) := by decide +kernel
theorem dX11_requests_36 : decode cX11_requests 36 = .ok (.iconst 0, 1) := by decide +kernel
theorem dX11_requests_37 : decode cX11_requests 37 = .ok (.ireturn, 1) := by decide +kernel
theorem dX11_comes_0 : decode cX11_comes 0 = .ok (.aload_n 0, 1) := by decide +kernel
theorem dX11_comes_1 : decode cX11_comes 1 = .ok (.getfield 65, 3) := by decide +kernel
theorem dX11_comes_4 : decode cX11_comes 4 = .ok (.iload_n 1, 1) := by decide +kernel
theorem dX11_comes_5 : decode cX11_comes 5 = .ok (.iaload, 1) := by decide +kernel
theorem dX11_comes_6 : decode cX11_comes 6 = .ok (.istore 5, 2) := by decide +kernel
theorem dX11_comes_8 : decode cX11_comes 8 = .ok (.iconst 0, 1) := by decide +kernel
theorem dX11_comes_9 : decode cX11_comes 9 = .ok (.istore 6, 2) := by decide +kernel
theorem dX11_comes_11 : decode cX11_comes 11 = .ok (.aload_n 0, 1) := by decide +kernel
theorem dX11_comes_12 : decode cX11_comes 12 = .ok (.iconst 0, 1) := by decide +kernel
theorem dX11_comes_13 : decode cX11_comes 13 = .ok (.putfield 352, 3) := by decide +kernel
theorem dX11_comes_16 : decode cX11_comes 16 = .ok (.iconst 0, 1) := by decide +kernel
theorem dX11_comes_17 : decode cX11_comes 17 = .ok (.istore 7, 2) := by decide +kernel
theorem dX11_comes_19 : decode cX11_comes 19 = .ok (.iload 7, 2) := by decide +kernel
theorem dX11_comes_21 : decode cX11_comes 21 = .ok (.aload_n 0, 1) := by decide +kernel
theorem dX11_comes_22 : decode cX11_comes 22 = .ok (.getfield 7, 3) := by decide +kernel
theorem dX11_comes_25 : decode cX11_comes 25 = .ok (.iload 5, 2) := by decide +kernel
theorem dX11_comes_27 : decode cX11_comes 27 = .ok (.iaload, 1) := by decide +kernel
theorem dX11_comes_28 : decode cX11_comes 28 = .ok (.if_icmp .ge 84, 3) := by decide +kernel
theorem dX11_comes_31 : decode cX11_comes 31 = .ok (.aload_n 0, 1) := by decide +kernel
theorem dX11_comes_32 : decode cX11_comes 32 = .ok (.iload_n 1, 1) := by decide +kernel
theorem dX11_comes_33 : decode cX11_comes 33 = .ok (.iload 7, 2) := by decide +kernel
theorem dX11_comes_35 : decode cX11_comes 35 = .ok (.invokevirtual 355, 3) := by decide +kernel
theorem dX11_comes_38 : decode cX11_comes 38 = .ok (.ifCond .eq 68, 3) := by decide +kernel
theorem dX11_comes_41 : decode cX11_comes 41 = .ok (.iload_n 2, 1) := by decide +kernel
theorem dX11_comes_42 : decode cX11_comes 42 = .ok (.iconst (-1), 1) := by decide +kernel
theorem dX11_comes_43 : decode cX11_comes 43 = .ok (.if_icmp .eq 30, 3) := by decide +kernel
theorem dX11_comes_46 : decode cX11_comes 46 = .ok (.aload_n 0, 1) := by decide +kernel
theorem dX11_comes_47 : decode cX11_comes 47 = .ok (.aload_n 0, 1) := by decide +kernel
theorem dX11_comes_48 : decode cX11_comes 48 = .ok (.getfield 16, 3) := by decide +kernel
theorem dX11_comes_51 : decode cX11_comes 51 = .ok (.iconst 4, 1) := by decide +kernel
theorem dX11_comes_52 : decode cX11_comes 52 = .ok (.bipush 12, 2) := by decide +kernel
theorem dX11_comes_54 : decode cX11_comes 54 = .ok (.iload 5, 2) := by decide +kernel
theorem dX11_comes_56 : decode cX11_comes 56 = .ok (.imul, 1) := by decide +kernel
theorem dX11_comes_57 : decode cX11_comes 57 = .ok (.iload 7, 2) := by decide +kernel
theorem dX11_comes_59 : decode cX11_comes 59 = .ok (.iadd, 1) := by decide +kernel
theorem dX11_comes_60 : decode cX11_comes 60 = .ok (.imul, 1) := by decide +kernel
theorem dX11_comes_61 : decode cX11_comes 61 = .ok (.iload_n 2, 1) := by decide +kernel
theorem dX11_comes_62 : decode cX11_comes 62 = .ok (.iadd, 1) := by decide +kernel
theorem dX11_comes_63 : decode cX11_comes 63 = .ok (.iaload, 1) := by decide +kernel
theorem dX11_comes_64 : decode cX11_comes 64 = .ok (.iload_n 3, 1) := by decide +kernel
theorem dX11_comes_65 : decode cX11_comes 65 = .ok (.iload 4, 2) := by decide +kernel
theorem dX11_comes_67 : decode cX11_comes 67 = .ok (.invokevirtual 358, 3) := by decide +kernel
theorem dX11_comes_70 : decode cX11_comes 70 = .ok (.ifCond .eq 36, 3) := by decide +kernel
theorem dX11_comes_73 : decode cX11_comes 73 = .ok (.iload 6, 2) := by decide +kernel
theorem dX11_comes_75 : decode cX11_comes 75 = .ok (.aload_n 0, 1) := by decide +kernel
theorem dX11_comes_76 : decode cX11_comes 76 = .ok (.getfield 34, 3) := by decide +kernel
theorem dX11_comes_79 : decode cX11_comes 79 = .ok (.iload 5, 2) := by decide +kernel
theorem dX11_comes_81 : decode cX11_comes 81 = .ok (.invokestatic 220, 3) := by decide +kernel
theorem dX11_comes_84 : decode cX11_comes 84 = .ok (.iaload, 1) := by decide +kernel
theorem dX11_comes_85 : decode cX11_comes 85 = .ok (.if_icmp .ne 11, 3) := by decide +kernel
theorem dX11_comes_88 : decode cX11_comes 88 = .ok (.aload_n 0, 1) := by decide +kernel
theorem dX11_comes_89 : decode cX11_comes 89 = .ok (.iconst 1, 1) := by decide +kernel
theorem dX11_comes_90 : decode cX11_comes 90 = .ok (.putfield 352, 3) := by decide +kernel
theorem dX11_comes_93 : decode cX11_comes 93 = .ok (.goto 13, 3) := by decide +kernel
theorem dX11_comes_96 : decode cX11_comes 96 = .ok (.aload_n 0, 1) := by decide +kernel
theorem dX11_comes_97 : decode cX11_comes 97 = .ok (.iload_n 1, 1) := by decide +kernel
theorem dX11_comes_98 : decode cX11_comes 98 = .ok (.iload 7, 2) := by decide +kernel
theorem dX11_comes_100 : decode cX11_comes 100 = .ok (.invokevirtual 361, 3) := by decide +kernel
theorem dX11_comes_103 : decode cX11_comes 103 = .ok (.iinc 6 1, 3) := by decide +kernel
theorem dX11_comes_106 : decode cX11_comes 106 = .ok (.iinc 7 1, 3) := by decide +kernel
theorem dX11_comes_109 : decode cX11_comes 109 = .ok (.goto (-90), 3) := by decide +kernel
theorem dX11_comes_112 : decode cX11_comes 112 = .ok (.aload_n 0, 1) := by decide +kernel
theorem dX11_comes_113 : decode cX11_comes 113 = .ok (.dup, 1) := by decide +kernel
theorem dX11_comes_114 : decode cX11_comes 114 = .ok (.getfield 364, 3) := by decide +kernel
theorem dX11_comes_117 : decode cX11_comes 117 = .ok (.iload 6, 2) := by decide +kernel
theorem dX11_comes_119 : decode cX11_comes 119 = .ok (.iadd, 1) := by decide +kernel
theorem dX11_comes_120 : decode cX11_comes 120 = .ok (.putfield 364, 3) := by decide +kernel
theorem dX11_comes_123 : decode cX11_comes 123 = .ok (.aload_n 0, 1) := by decide +kernel
theorem dX11_comes_124 : decode cX11_comes 124 = .ok (.iload 6, 2) := by decide +kernel
theorem dX11_comes_126 : decode cX11_comes 126 = .ok (.aload_n 0, 1) := by decide +kernel
theorem dX11_comes_127 : decode cX11_comes 127 = .ok (.getfield 56, 3) := by decide +kernel
theorem dX11_comes_130 : decode cX11_comes 130 = .ok (.iload 5, 2) := by decide +kernel
theorem dX11_comes_132 : decode cX11_comes 132 = .ok (.invokestatic 220, 3) := by decide +kernel
theorem dX11_comes_135 : decode cX11_comes 135 = .ok (.iaload, 1) := by decide +kernel
theorem dX11_comes_136 : decode cX11_comes 136 = .ok (.imul, 1) := by decide +kernel
theorem dX11_comes_137 : decode cX11_comes 137 = .ok (.invokevirtual 339, 3) := by decide +kernel
theorem dX11_comes_140 : decode cX11_comes 140 = .ok (.return_, 1) := by decide +kernel
theorem dX11_isKey_0 : decode cX11_isKey 0 = .ok (.iconst 0, 1) := by decide +kernel
theorem dX11_isKey_1 : decode cX11_isKey 1 = .ok (.istore 4, 2) := by decide +kernel
theorem dX11_isKey_3 : decode cX11_isKey 3 = .ok (.iload_n 2, 1) := by decide +kernel
theorem dX11_isKey_4 : decode cX11_isKey 4 = .ok (.istore 5, 2) := by decide +kernel
