theorem dL_drafts_287 : decode cL_drafts 287 = .ok (.aload_n 0, 1) := by decide +kernel
theorem dL_drafts_288 : decode cL_drafts 288 = .ok (.iload 5, 2) := by decide +kernel
theorem dL_drafts_290 : decode cL_drafts 290 = .ok (.iload 6, 2) := by decide +kernel
theorem dL_drafts_292 : decode cL_drafts 292 = .ok (.iload 5, 2) := by decide +kernel
theorem dL_drafts_294 : decode cL_drafts 294 = .ok (.iload 6, 2) := by decide +kernel
theorem dL_drafts_296 : decode cL_drafts 296 = .ok (.invokestatic 200, 3) := by decide +kernel
theorem dL_drafts_299 : decode cL_drafts 299 = .ok (.sipush (-7200), 3) := by decide +kernel
theorem dL_drafts_302 : decode cL_drafts 302 = .ok (.if_icmp .eq 5, 3) := by decide +kernel
theorem dL_drafts_305 : decode cL_drafts 305 = .ok (.iconst 0, 1) := by decide +kernel
theorem dL_drafts_306 : decode cL_drafts 306 = .ok (.ireturn, 1) := by decide +kernel
theorem dL_drafts_307 : decode cL_drafts 307 = .ok (.iload 7, 2) := by decide +kernel
theorem dL_drafts_309 : decode cL_drafts 309 = .ok (.iload 5, 2) := by decide +kernel
theorem dL_drafts_311 : decode cL_drafts 311 = .ok (.if_icmp .gt 27, 3) := by decide +kernel
theorem dL_drafts_314 : decode cL_drafts 314 = .ok (.aload_n 0, 1) := by decide +kernel
theorem dL_drafts_315 : decode cL_drafts 315 = .ok (.iload 5, 2) := by decide +kernel
theorem dL_drafts_317 : decode cL_drafts 317 = .ok (.iload 6, 2) := by decide +kernel
theorem dL_drafts_319 : decode cL_drafts 319 = .ok (.iload 7, 2) := by decide +kernel
theorem dL_drafts_321 : decode cL_drafts 321 = .ok (.iload 8, 2) := by decide +kernel
theorem dL_drafts_323 : decode cL_drafts 323 = .ok (.invokestatic 200, 3) := by decide +kernel
theorem dL_drafts_326 : decode cL_drafts 326 = .ok (.sipush (-7200), 3) := by decide +kernel
theorem dL_drafts_329 : decode cL_drafts 329 = .ok (.if_icmp .ne 7, 3) := by decide +kernel
theorem dL_drafts_332 : decode cL_drafts 332 = .ok (.iconst 1, 1) := by decide +kernel
theorem dL_drafts_333 : decode cL_drafts 333 = .ok (.goto 4, 3) := by decide +kernel
theorem dL_drafts_336 : decode cL_drafts 336 = .ok (.iconst 0, 1) := by decide +kernel
theorem dL_drafts_337 : decode cL_drafts 337 = .ok (.ireturn, 1) := by decide +kernel
theorem dL_drafts_338 : decode cL_drafts 338 = .ok (.aload 4, 2) := by decide +kernel
theorem dL_drafts_340 : decode cL_drafts 340 = .ok (.iconst 1, 1) := by decide +kernel
theorem dL_drafts_341 : decode cL_drafts 341 = .ok (.iaload, 1) := by decide +kernel
theorem dL_drafts_342 : decode cL_drafts 342 = .ok (.iconst 3, 1) := by decide +kernel
theorem dL_drafts_343 : decode cL_drafts 343 = .ok (.if_icmp .ne 27, 3) := by decide +kernel
theorem dL_drafts_346 : decode cL_drafts 346 = .ok (.aload_n 0, 1) := by decide +kernel
theorem dL_drafts_347 : decode cL_drafts 347 = .ok (.iload 5, 2) := by decide +kernel
theorem dL_drafts_349 : decode cL_drafts 349 = .ok (.iload 6, 2) := by decide +kernel
theorem dL_drafts_351 : decode cL_drafts 351 = .ok (.iload 7, 2) := by decide +kernel
theorem dL_drafts_353 : decode cL_drafts 353 = .ok (.iload 8, 2) := by decide +kernel
theorem dL_drafts_355 : decode cL_drafts 355 = .ok (.invokestatic 200, 3) := by decide +kernel
theorem dL_drafts_358 : decode cL_drafts 358 = .ok (.sipush (-7300), 3) := by decide +kernel
theorem dL_drafts_361 : decode cL_drafts 361 = .ok (.if_icmp .ne 7, 3) := by decide +kernel
theorem dL_drafts_364 : decode cL_drafts 364 = .ok (.iconst 1, 1) := by decide +kernel
theorem dL_drafts_365 : decode cL_drafts 365 = .ok (.goto 4, 3) := by decide +kernel
theorem dL_drafts_368 : decode cL_drafts 368 = .ok (.iconst 0, 1) := by decide +kernel
theorem dL_drafts_369 : decode cL_drafts 369 = .ok (.ireturn, 1) := by decide +kernel
theorem dL_drafts_370 : decode cL_drafts 370 = .ok (.aload 4, 2) := by decide +kernel
theorem dL_drafts_372 : decode cL_drafts 372 = .ok (.bipush 9, 2) := by decide +kernel
theorem dL_drafts_374 : decode cL_drafts 374 = .ok (.iconst 4, 1) := by decide +kernel
theorem dL_drafts_375 : decode cL_drafts 375 = .ok (.aload 4, 2) := by decide +kernel
theorem dL_drafts_377 : decode cL_drafts 377 = .ok (.iconst 1, 1) := by decide +kernel
theorem dL_drafts_378 : decode cL_drafts 378 = .ok (.iaload, 1) := by decide +kernel
theorem dL_drafts_379 : decode cL_drafts 379 = .ok (.imul, 1) := by decide +kernel
theorem dL_drafts_380 : decode cL_drafts 380 = .ok (.iadd, 1) := by decide +kernel
theorem dL_drafts_381 : decode cL_drafts 381 = .ok (.iload 5, 2) := by decide +kernel
theorem dL_drafts_383 : decode cL_drafts 383 = .ok (.iastore, 1) := by decide +kernel
theorem dL_drafts_384 : decode cL_drafts 384 = .ok (.aload 4, 2) := by decide +kernel
theorem dL_drafts_386 : decode cL_drafts 386 = .ok (.bipush 10, 2) := by decide +kernel
theorem dL_drafts_388 : decode cL_drafts 388 = .ok (.iconst 4, 1) := by decide +kernel
theorem dL_drafts_389 : decode cL_drafts 389 = .ok (.aload 4, 2) := by decide +kernel
theorem dL_drafts_391 : decode cL_drafts 391 = .ok (.iconst 1, 1) := by decide +kernel
theorem dL_drafts_392 : decode cL_drafts 392 = .ok (.iaload, 1) := by decide +kernel
theorem dL_drafts_393 : decode cL_drafts 393 = .ok (.imul, 1) := by decide +kernel
theorem dL_drafts_394 : decode cL_drafts 394 = .ok (.iadd, 1) := by decide +kernel
theorem dL_drafts_395 : decode cL_drafts 395 = .ok (.iload 6, 2) := by decide +kernel
theorem dL_drafts_397 : decode cL_drafts 397 = .ok (.iastore, 1) := by decide +kernel
theorem dL_drafts_398 : decode cL_drafts 398 = .ok (.aload 4, 2) := by decide +kernel
theorem dL_drafts_400 : decode cL_drafts 400 = .ok (.bipush 11, 2) := by decide +kernel
theorem dL_drafts_402 : decode cL_drafts 402 = .ok (.iconst 4, 1) := by decide +kernel
theorem dL_drafts_403 : decode cL_drafts 403 = .ok (.aload 4, 2) := by decide +kernel
theorem dL_drafts_405 : decode cL_drafts 405 = .ok (.iconst 1, 1) := by decide +kernel
theorem dL_drafts_406 : decode cL_drafts 406 = .ok (.iaload, 1) := by decide +kernel
theorem dL_drafts_407 : decode cL_drafts 407 = .ok (.imul, 1) := by decide +kernel
theorem dL_drafts_408 : decode cL_drafts 408 = .ok (.iadd, 1) := by decide +kernel
theorem dL_drafts_409 : decode cL_drafts 409 = .ok (.iload 7, 2) := by decide +kernel
theorem dL_drafts_411 : decode cL_drafts 411 = .ok (.iastore, 1) := by decide +kernel
theorem dL_drafts_412 : decode cL_drafts 412 = .ok (.aload 4, 2) := by decide +kernel
theorem dL_drafts_414 : decode cL_drafts 414 = .ok (.bipush 12, 2) := by decide +kernel
theorem dL_drafts_416 : decode cL_drafts 416 = .ok (.iconst 4, 1) := by decide +kernel
theorem dL_drafts_417 : decode cL_drafts 417 = .ok (.aload 4, 2) := by decide +kernel
theorem dL_drafts_419 : decode cL_drafts 419 = .ok (.iconst 1, 1) := by decide +kernel
theorem dL_drafts_420 : decode cL_drafts 420 = .ok (.iaload, 1) := by decide +kernel
theorem dL_drafts_421 : decode cL_drafts 421 = .ok (.imul, 1) := by decide +kernel
theorem dL_drafts_422 : decode cL_drafts 422 = .ok (.iadd, 1) := by decide +kernel
theorem dL_drafts_423 : decode cL_drafts 423 = .ok (.iload 8, 2) := by decide +kernel
theorem dL_drafts_425 : decode cL_drafts 425 = .ok (.iastore, 1) := by decide +kernel
theorem dL_drafts_426 : decode cL_drafts 426 = .ok (.aload 4, 2) := by decide +kernel
theorem dL_drafts_428 : decode cL_drafts 428 = .ok (.iconst 1, 1) := by decide +kernel
theorem dL_drafts_429 : decode cL_drafts 429 = .ok (.dup2, 1) := by decide +kernel
theorem dL_drafts_430 : decode cL_drafts 430 = .ok (.iaload, 1) := by decide +kernel
theorem dL_drafts_431 : decode cL_drafts 431 = .ok (.iconst 1, 1) := by decide +kernel
theorem dL_drafts_432 : decode cL_drafts 432 = .ok (.iadd, 1) := by decide +kernel
theorem dL_drafts_433 : decode cL_drafts 433 = .ok (.iastore, 1) := by decide +kernel
theorem dL_drafts_434 : decode cL_drafts 434 = .ok (.aload_n 0, 1) := by decide +kernel
theorem dL_drafts_435 : decode cL_drafts 435 = .ok (.iload 5, 2) := by decide +kernel
theorem dL_drafts_437 : decode cL_drafts 437 = .ok (.iload 6, 2) := by decide +kernel
theorem dL_drafts_439 : decode cL_drafts 439 = .ok (.iload 7, 2) := by decide +kernel
theorem dL_drafts_441 : decode cL_drafts 441 = .ok (.iload 8, 2) := by decide +kernel
theorem dL_drafts_443 : decode cL_drafts 443 = .ok (.invokestatic 200, 3) := by decide +kernel
theorem dL_drafts_446 : decode cL_drafts 446 = .ok (.aload 4, 2) := by decide +kernel
theorem dL_drafts_448 : decode cL_drafts 448 = .ok (.iconst 1, 1) := by decide +kernel
theorem dL_drafts_449 : decode cL_drafts 449 = .ok (.iaload, 1) := by decide +kernel
theorem dL_drafts_450 : decode cL_drafts 450 = .ok (.if_icmp .ne 7, 3) := by decide +kernel
theorem dL_drafts_453 : decode cL_drafts 453 = .ok (.iconst 1, 1) := by decide +kernel
theorem dL_drafts_454 : decode cL_drafts 454 = .ok (.goto 4, 3) := by decide +kernel
theorem dL_drafts_457 : decode cL_drafts 457 = .ok (.iconst 0, 1) := by decide +kernel
theorem dL_drafts_458 : decode cL_drafts 458 = .ok (.ireturn, 1) := by decide +kernel
theorem dL_drafts_459 : decode cL_drafts 459 = .ok (.iload_n 1, 1) := by decide +kernel
theorem dL_drafts_460 : decode cL_drafts 460 = .ok (.bipush 8, 2) := by decide +kernel
theorem dL_drafts_462 : decode cL_drafts 462 = .ok (.if_icmp .ge 263, 3) := by decide +kernel
theorem dL_drafts_465 : decode cL_drafts 465 = .ok (.iload_n 3, 1) := by decide +kernel
theorem dL_drafts_466 : decode cL_drafts 466 = .ok (.iconst 5, 1) := by decide +kernel
theorem dL_drafts_467 : decode cL_drafts 467 = .ok (.invokestatic 130, 3) := by decide +kernel
theorem dL_drafts_470 : decode cL_drafts 470 = .ok (.istore 7, 2) := by decide +kernel
theorem dL_drafts_472 : decode cL_drafts 472 = .ok (.iload 7, 2) := by decide +kernel
theorem dL_drafts_474 : decode cL_drafts 474 = .ok (.iconst 2, 1) := by decide +kernel
theorem dL_drafts_475 : decode cL_drafts 475 = .ok (.if_icmp .le 7, 3) := by decide +kernel
theorem dL_drafts_478 : decode cL_drafts 478 = .ok (.iconst 0, 1) := by decide +kernel
theorem dL_drafts_479 : decode cL_drafts 479 = .ok (.goto 13, 3) := by decide +kernel
theorem dL_drafts_482 : decode cL_drafts 482 = .ok (.iload_n 3, 1) := by decide +kernel
theorem dL_drafts_483 : decode cL_drafts 483 = .ok (.iconst 4, 1) := by decide +kernel
theorem dL_drafts_484 : decode cL_drafts 484 = .ok (.ishr, 1) := by decide +kernel
theorem dL_drafts_485 : decode cL_drafts 485 = .ok (.bipush 9, 2) := by decide +kernel
theorem dL_drafts_487 : decode cL_drafts 487 = .ok (.invokestatic 130, 3) := by decide +kernel
theorem dL_drafts_490 : decode cL_drafts 490 = .ok (.iconst 2, 1) := by decide +kernel
theorem dL_drafts_491 : decode cL_drafts 491 = .ok (.isub, 1) := by decide +kernel
theorem dL_drafts_492 : decode cL_drafts 492 = .ok (.istore 8, 2) := by decide +kernel
theorem dL_drafts_494 : decode cL_drafts 494 = .ok (.aload_n 0, 1) := by decide +kernel
theorem dL_drafts_495 : decode cL_drafts 495 = .ok (.iload 5, 2) := by decide +kernel
theorem dL_drafts_497 : decode cL_drafts 497 = .ok (.aload 4, 2) := by decide +kernel
theorem dL_drafts_499 : decode cL_drafts 499 = .ok (.bipush 6, 2) := by decide +kernel
theorem dL_drafts_501 : decode cL_drafts 501 = .ok (.iload 5, 2) := by decide +kernel
theorem dL_drafts_503 : decode cL_drafts 503 = .ok (.iadd, 1) := by decide +kernel
theorem dL_drafts_504 : decode cL_drafts 504 = .ok (.iaload, 1) := by decide +kernel
theorem dL_drafts_505 : decode cL_drafts 505 = .ok (.invokestatic 125, 3) := by decide +kernel
theorem dL_drafts_508 : decode cL_drafts 508 = .ok (.bipush 9, 2) := by decide +kernel
theorem dL_drafts_510 : decode cL_drafts 510 = .ok (.iconst 0, 1) := by decide +kernel
theorem dL_drafts_511 : decode cL_drafts 511 = .ok (.invokestatic 202, 3) := by decide +kernel
theorem dL_drafts_514 : decode cL_drafts 514 = .ok (.sipush (-7100), 3) := by decide +kernel
theorem dL_drafts_517 : decode cL_drafts 517 = .ok (.if_icmp .ne 85, 3) := by decide +kernel
theorem dL_drafts_520 : decode cL_drafts 520 = .ok (.aload_n 0, 1) := by decide +kernel
theorem dL_drafts_521 : decode cL_drafts 521 = .ok (.iload 5, 2) := by decide +kernel
theorem dL_drafts_523 : decode cL_drafts 523 = .ok (.iload 6, 2) := by decide +kernel
theorem dL_drafts_525 : decode cL_drafts 525 = .ok (.iconst 5, 1) := by decide +kernel
theorem dL_drafts_526 : decode cL_drafts 526 = .ok (.iconst 0, 1) := by decide +kernel
theorem dL_drafts_527 : decode cL_drafts 527 = .ok (.invokestatic 202, 3) := by decide +kernel
theorem dL_drafts_530 : decode cL_drafts 530 = .ok (.sipush (-7200), 3) := by decide +kernel
theorem dL_drafts_533 : decode cL_drafts 533 = .ok (.if_icmp .ne 69, 3) := by decide +kernel
theorem dL_drafts_536 : decode cL_drafts 536 = .ok (.aload_n 0, 1) := by decide +kernel
theorem dL_drafts_537 : decode cL_drafts 537 = .ok (.iload 5, 2) := by decide +kernel
theorem dL_drafts_539 : decode cL_drafts 539 = .ok (.iload 6, 2) := by decide +kernel
theorem dL_drafts_541 : decode cL_drafts 541 = .ok (.iconst (-1), 1) := by decide +kernel
theorem dL_drafts_542 : decode cL_drafts 542 = .ok (.iconst 0, 1) := by decide +kernel
theorem dL_drafts_543 : decode cL_drafts 543 = .ok (.invokestatic 202, 3) := by decide +kernel
theorem dL_drafts_546 : decode cL_drafts 546 = .ok (.sipush (-7200), 3) := by decide +kernel
theorem dL_drafts_549 : decode cL_drafts 549 = .ok (.if_icmp .ne 53, 3) := by decide +kernel
theorem dL_drafts_552 : decode cL_drafts 552 = .ok (.aload_n 0, 1) := by decide +kernel
theorem dL_drafts_553 : decode cL_drafts 553 = .ok (.iload 5, 2) := by decide +kernel
theorem dL_drafts_555 : decode cL_drafts 555 = .ok (.iload 6, 2) := by decide +kernel
theorem dL_drafts_557 : decode cL_drafts 557 = .ok (.iconst 3, 1) := by decide +kernel
theorem dL_drafts_558 : decode cL_drafts 558 = .ok (.iconst 1, 1) := by decide +kernel
theorem dL_drafts_559 : decode cL_drafts 559 = .ok (.invokestatic 202, 3) := by decide +kernel
theorem dL_drafts_562 : decode cL_drafts 562 = .ok (.sipush (-7200), 3) := by decide +kernel
theorem dL_drafts_565 : decode cL_drafts 565 = .ok (.if_icmp .ne 37, 3) := by decide +kernel
theorem dL_drafts_568 : decode cL_drafts 568 = .ok (.aload_n 0, 1) := by decide +kernel
theorem dL_drafts_569 : decode cL_drafts 569 = .ok (.iload 5, 2) := by decide +kernel
theorem dL_drafts_571 : decode cL_drafts 571 = .ok (.iload 6, 2) := by decide +kernel
theorem dL_drafts_573 : decode cL_drafts 573 = .ok (.iconst 0, 1) := by decide +kernel
theorem dL_drafts_574 : decode cL_drafts 574 = .ok (.sipush 1000, 3) := by decide +kernel
theorem dL_drafts_577 : decode cL_drafts 577 = .ok (.invokestatic 202, 3) := by decide +kernel
theorem dL_drafts_580 : decode cL_drafts 580 = .ok (.sipush (-7200), 3) := by decide +kernel
theorem dL_drafts_583 : decode cL_drafts 583 = .ok (.if_icmp .ne 19, 3) := by decide +kernel
theorem dL_drafts_586 : decode cL_drafts 586 = .ok (.aload_n 0, 1) := by decide +kernel
theorem dL_drafts_587 : decode cL_drafts 587 = .ok (.iload 5, 2) := by decide +kernel
theorem dL_drafts_589 : decode cL_drafts 589 = .ok (.iload 6, 2) := by decide +kernel
theorem dL_drafts_591 : decode cL_drafts 591 = .ok (.iconst 4, 1) := by decide +kernel
theorem dL_drafts_592 : decode cL_drafts 592 = .ok (.iconst (-1), 1) := by decide +kernel
theorem dL_drafts_593 : decode cL_drafts 593 = .ok (.invokestatic 202, 3) := by decide +kernel
theorem dL_drafts_596 : decode cL_drafts 596 = .ok (.sipush (-7200), 3) := by decide +kernel
theorem dL_drafts_599 : decode cL_drafts 599 = .ok (.if_icmp .eq 5, 3) := by decide +kernel
theorem dL_drafts_602 : decode cL_drafts 602 = .ok (.iconst 0, 1) := by decide +kernel
theorem dL_drafts_603 : decode cL_drafts 603 = .ok (.ireturn, 1) := by decide +kernel
theorem dL_drafts_604 : decode cL_drafts 604 = .ok (.aload 4, 2) := by decide +kernel
theorem dL_drafts_606 : decode cL_drafts 606 = .ok (.iconst 2, 1) := by decide +kernel
theorem dL_drafts_607 : decode cL_drafts 607 = .ok (.iaload, 1) := by decide +kernel
theorem dL_drafts_608 : decode cL_drafts 608 = .ok (.iconst 4, 1) := by decide +kernel
theorem dL_drafts_609 : decode cL_drafts 609 = .ok (.if_icmp .ne 27, 3) := by decide +kernel
theorem dL_drafts_612 : decode cL_drafts 612 = .ok (.aload_n 0, 1) := by decide +kernel
theorem dL_drafts_613 : decode cL_drafts 613 = .ok (.iload 5, 2) := by decide +kernel
theorem dL_drafts_615 : decode cL_drafts 615 = .ok (.iload 6, 2) := by decide +kernel
theorem dL_drafts_617 : decode cL_drafts 617 = .ok (.iload 7, 2) := by decide +kernel
theorem dL_drafts_619 : decode cL_drafts 619 = .ok (.iload 8, 2) := by decide +kernel
theorem dL_drafts_621 : decode cL_drafts 621 = .ok (.invokestatic 202, 3) := by decide +kernel
theorem dL_drafts_624 : decode cL_drafts 624 = .ok (.sipush (-7300), 3) := by decide +kernel
theorem dL_drafts_627 : decode cL_drafts 627 = .ok (.if_icmp .ne 7, 3) := by decide +kernel
theorem dL_drafts_630 : decode cL_drafts 630 = .ok (.iconst 1, 1) := by decide +kernel
theorem dL_drafts_631 : decode cL_drafts 631 = .ok (.goto 4, 3) := by decide +kernel
theorem dL_drafts_634 : decode cL_drafts 634 = .ok (.iconst 0, 1) := by decide +kernel
theorem dL_drafts_635 : decode cL_drafts 635 = .ok (.ireturn, 1) := by decide +kernel
theorem dL_drafts_636 : decode cL_drafts 636 = .ok (.aload 4, 2) := by decide +kernel
theorem dL_drafts_638 : decode cL_drafts 638 = .ok (.bipush 21, 2) := by decide +kernel
theorem dL_drafts_640 : decode cL_drafts 640 = .ok (.iconst 4, 1) := by decide +kernel
theorem dL_drafts_641 : decode cL_drafts 641 = .ok (.aload 4, 2) := by decide +kernel
theorem dL_drafts_643 : decode cL_drafts 643 = .ok (.iconst 2, 1) := by decide +kernel
theorem dL_drafts_644 : decode cL_drafts 644 = .ok (.iaload, 1) := by decide +kernel
theorem dL_drafts_645 : decode cL_drafts 645 = .ok (.imul, 1) := by decide +kernel
theorem dL_drafts_646 : decode cL_drafts 646 = .ok (.iadd, 1) := by decide +kernel
theorem dL_drafts_647 : decode cL_drafts 647 = .ok (.iload 5, 2) := by decide +kernel
theorem dL_drafts_649 : decode cL_drafts 649 = .ok (.iastore, 1) := by decide +kernel
theorem dL_drafts_650 : decode cL_drafts 650 = .ok (.aload 4, 2) := by decide +kernel
theorem dL_drafts_652 : decode cL_drafts 652 = .ok (.bipush 22, 2) := by decide +kernel
theorem dL_drafts_654 : decode cL_drafts 654 = .ok (.iconst 4, 1) := by decide +kernel
theorem dL_drafts_655 : decode cL_drafts 655 = .ok (.aload 4, 2) := by decide +kernel
theorem dL_drafts_657 : decode cL_drafts 657 = .ok (.iconst 2, 1) := by decide +kernel
theorem dL_drafts_658 : decode cL_drafts 658 = .ok (.iaload, 1) := by decide +kernel
theorem dL_drafts_659 : decode cL_drafts 659 = .ok (.imul, 1) := by decide +kernel
theorem dL_drafts_660 : decode cL_drafts 660 = .ok (.iadd, 1) := by decide +kernel
theorem dL_drafts_661 : decode cL_drafts 661 = .ok (.iload 6, 2) := by decide +kernel
theorem dL_drafts_663 : decode cL_drafts 663 = .ok (.iastore, 1) := by decide +kernel
theorem dL_drafts_664 : decode cL_drafts 664 = .ok (.aload 4, 2) := by decide +kernel
theorem dL_drafts_666 : decode cL_drafts 666 = .ok (.bipush 23, 2) := by decide +kernel
theorem dL_drafts_668 : decode cL_drafts 668 = .ok (.iconst 4, 1) := by decide +kernel
theorem dL_drafts_669 : decode cL_drafts 669 = .ok (.aload 4, 2) := by decide +kernel
theorem dL_drafts_671 : decode cL_drafts 671 = .ok (.iconst 2, 1) := by decide +kernel
theorem dL_drafts_672 : decode cL_drafts 672 = .ok (.iaload, 1) := by decide +kernel
theorem dL_drafts_673 : decode cL_drafts 673 = .ok (.imul, 1) := by decide +kernel
theorem dL_drafts_674 : decode cL_drafts 674 = .ok (.iadd, 1) := by decide +kernel
theorem dL_drafts_675 : decode cL_drafts 675 = .ok (.iload 7, 2) := by decide +kernel
theorem dL_drafts_677 : decode cL_drafts 677 = .ok (.iastore, 1) := by decide +kernel
theorem dL_drafts_678 : decode cL_drafts 678 = .ok (.aload 4, 2) := by decide +kernel
theorem dL_drafts_680 : decode cL_drafts 680 = .ok (.bipush 24, 2) := by decide +kernel
theorem dL_drafts_682 : decode cL_drafts 682 = .ok (.iconst 4, 1) := by decide +kernel
theorem dL_drafts_683 : decode cL_drafts 683 = .ok (.aload 4, 2) := by decide +kernel
theorem dL_drafts_685 : decode cL_drafts 685 = .ok (.iconst 2, 1) := by decide +kernel
theorem dL_drafts_686 : decode cL_drafts 686 = .ok (.iaload, 1) := by decide +kernel
theorem dL_drafts_687 : decode cL_drafts 687 = .ok (.imul, 1) := by decide +kernel
theorem dL_drafts_688 : decode cL_drafts 688 = .ok (.iadd, 1) := by decide +kernel
theorem dL_drafts_689 : decode cL_drafts 689 = .ok (.iload 8, 2) := by decide +kernel
theorem dL_drafts_691 : decode cL_drafts 691 = .ok (.iastore, 1) := by decide +kernel
theorem dL_drafts_692 : decode cL_drafts 692 = .ok (.aload 4, 2) := by decide +kernel
theorem dL_drafts_694 : decode cL_drafts 694 = .ok (.iconst 2, 1) := by decide +kernel
theorem dL_drafts_695 : decode cL_drafts 695 = .ok (.dup2, 1) := by decide +kernel
theorem dL_drafts_696 : decode cL_drafts 696 = .ok (.iaload, 1) := by decide +kernel
theorem dL_drafts_697 : decode cL_drafts 697 = .ok (.iconst 1, 1) := by decide +kernel
theorem dL_drafts_698 : decode cL_drafts 698 = .ok (.iadd, 1) := by decide +kernel
theorem dL_drafts_699 : decode cL_drafts 699 = .ok (.iastore, 1) := by decide +kernel
theorem dL_drafts_700 : decode cL_drafts 700 = .ok (.aload_n 0, 1) := by decide +kernel
theorem dL_drafts_701 : decode cL_drafts 701 = .ok (.iload 5, 2) := by decide +kernel
theorem dL_drafts_703 : decode cL_drafts 703 = .ok (.iload 6, 2) := by decide +kernel
theorem dL_drafts_705 : decode cL_drafts 705 = .ok (.iload 7, 2) := by decide +kernel
theorem dL_drafts_707 : decode cL_drafts 707 = .ok (.iload 8, 2) := by decide +kernel
theorem dL_drafts_709 : decode cL_drafts 709 = .ok (.invokestatic 202, 3) := by decide +kernel
theorem dL_drafts_712 : decode cL_drafts 712 = .ok (.aload 4, 2) := by decide +kernel
theorem dL_drafts_714 : decode cL_drafts 714 = .ok (.iconst 2, 1) := by decide +kernel
theorem dL_drafts_715 : decode cL_drafts 715 = .ok (.iaload, 1) := by decide +kernel
theorem dL_drafts_716 : decode cL_drafts 716 = .ok (.if_icmp .ne 7, 3) := by decide +kernel
theorem dL_drafts_719 : decode cL_drafts 719 = .ok (.iconst 1, 1) := by decide +kernel
theorem dL_drafts_720 : decode cL_drafts 720 = .ok (.goto 4, 3) := by decide +kernel
theorem dL_drafts_723 : decode cL_drafts 723 = .ok (.iconst 0, 1) := by decide +kernel
theorem dL_drafts_724 : decode cL_drafts 724 = .ok (.ireturn, 1) := by decide +kernel
theorem dL_drafts_725 : decode cL_drafts 725 = .ok (.iload_n 1, 1) := by decide +kernel
theorem dL_drafts_726 : decode cL_drafts 726 = .ok (.bipush 11, 2) := by decide +kernel
theorem dL_drafts_728 : decode cL_drafts 728 = .ok (.if_icmp .ge 126, 3) := by decide +kernel
theorem dL_drafts_731 : decode cL_drafts 731 = .ok (.aload_n 0, 1) := by decide +kernel
theorem dL_drafts_732 : decode cL_drafts 732 = .ok (.iload 5, 2) := by decide +kernel
theorem dL_drafts_734 : decode cL_drafts 734 = .ok (.aload 4, 2) := by decide +kernel
theorem dL_drafts_736 : decode cL_drafts 736 = .ok (.bipush 6, 2) := by decide +kernel
theorem dL_drafts_738 : decode cL_drafts 738 = .ok (.iload 5, 2) := by decide +kernel
theorem dL_drafts_740 : decode cL_drafts 740 = .ok (.iadd, 1) := by decide +kernel
theorem dL_drafts_741 : decode cL_drafts 741 = .ok (.iaload, 1) := by decide +kernel
theorem dL_drafts_742 : decode cL_drafts 742 = .ok (.invokestatic 125, 3) := by decide +kernel
theorem dL_drafts_745 : decode cL_drafts 745 = .ok (.invokestatic 204, 3) := by decide +kernel
theorem dL_drafts_748 : decode cL_drafts 748 = .ok (.sipush (-7100), 3) := by decide +kernel
theorem dL_drafts_751 : decode cL_drafts 751 = .ok (.if_icmp .ne 16, 3) := by decide +kernel
theorem dL_drafts_754 : decode cL_drafts 754 = .ok (.aload_n 0, 1) := by decide +kernel
theorem dL_drafts_755 : decode cL_drafts 755 = .ok (.iload 5, 2) := by decide +kernel
theorem dL_drafts_757 : decode cL_drafts 757 = .ok (.iconst (-1), 1) := by decide +kernel
theorem dL_drafts_758 : decode cL_drafts 758 = .ok (.invokestatic 204, 3) := by decide +kernel
theorem dL_drafts_761 : decode cL_drafts 761 = .ok (.sipush (-7100), 3) := by decide +kernel
theorem dL_drafts_764 : decode cL_drafts 764 = .ok (.if_icmp .eq 5, 3) := by decide +kernel
theorem dL_drafts_767 : decode cL_drafts 767 = .ok (.iconst 0, 1) := by decide +kernel
theorem dL_drafts_768 : decode cL_drafts 768 = .ok (.ireturn, 1) := by decide +kernel
theorem dL_drafts_769 : decode cL_drafts 769 = .ok (.aload 4, 2) := by decide +kernel
theorem dL_drafts_771 : decode cL_drafts 771 = .ok (.iconst 3, 1) := by decide +kernel
theorem dL_drafts_772 : decode cL_drafts 772 = .ok (.iaload, 1) := by decide +kernel
theorem dL_drafts_773 : decode cL_drafts 773 = .ok (.iconst 3, 1) := by decide +kernel
theorem dL_drafts_774 : decode cL_drafts 774 = .ok (.if_icmp .ne 23, 3) := by decide +kernel
theorem dL_drafts_777 : decode cL_drafts 777 = .ok (.aload_n 0, 1) := by decide +kernel
theorem dL_drafts_778 : decode cL_drafts 778 = .ok (.iload 5, 2) := by decide +kernel
theorem dL_drafts_780 : decode cL_drafts 780 = .ok (.iload 6, 2) := by decide +kernel
theorem dL_drafts_782 : decode cL_drafts 782 = .ok (.invokestatic 204, 3) := by decide +kernel
theorem dL_drafts_785 : decode cL_drafts 785 = .ok (.sipush (-7300), 3) := by decide +kernel
theorem dL_drafts_788 : decode cL_drafts 788 = .ok (.if_icmp .ne 7, 3) := by decide +kernel
theorem dL_drafts_791 : decode cL_drafts 791 = .ok (.iconst 1, 1) := by decide +kernel
theorem dL_drafts_792 : decode cL_drafts 792 = .ok (.goto 4, 3) := by decide +kernel
theorem dL_drafts_795 : decode cL_drafts 795 = .ok (.iconst 0, 1) := by decide +kernel
theorem dL_drafts_796 : decode cL_drafts 796 = .ok (.ireturn, 1) := by decide +kernel
theorem dL_drafts_797 : decode cL_drafts 797 = .ok (.aload 4, 2) := by decide +kernel
theorem dL_drafts_799 : decode cL_drafts 799 = .ok (.bipush 37, 2) := by decide +kernel
theorem dL_drafts_801 : decode cL_drafts 801 = .ok (.iconst 2, 1) := by decide +kernel
theorem dL_drafts_802 : decode cL_drafts 802 = .ok (.aload 4, 2) := by decide +kernel
theorem dL_drafts_804 : decode cL_drafts 804 = .ok (.iconst 3, 1) := by decide +kernel
theorem dL_drafts_805 : decode cL_drafts 805 = .ok (.iaload, 1) := by decide +kernel
theorem dL_drafts_806 : decode cL_drafts 806 = .ok (.imul, 1) := by decide +kernel
theorem dL_drafts_807 : decode cL_drafts 807 = .ok (.iadd, 1) := by decide +kernel
theorem dL_drafts_808 : decode cL_drafts 808 = .ok (.iload 5, 2) := by decide +kernel
theorem dL_drafts_810 : decode cL_drafts 810 = .ok (.iastore, 1) := by decide +kernel
theorem dL_drafts_811 : decode cL_drafts 811 = .ok (.aload 4, 2) := by decide +kernel
theorem dL_drafts_813 : decode cL_drafts 813 = .ok (.bipush 38, 2) := by decide +kernel
theorem dL_drafts_815 : decode cL_drafts 815 = .ok (.iconst 2, 1) := by decide +kernel
theorem dL_drafts_816 : decode cL_drafts 816 = .ok (.aload 4, 2) := by decide +kernel
theorem dL_drafts_818 : decode cL_drafts 818 = .ok (.iconst 3, 1) := by decide +kernel
theorem dL_drafts_819 : decode cL_drafts 819 = .ok (.iaload, 1) := by decide +kernel
theorem dL_drafts_820 : decode cL_drafts 820 = .ok (.imul, 1) := by decide +kernel
theorem dL_drafts_821 : decode cL_drafts 821 = .ok (.iadd, 1) := by decide +kernel
theorem dL_drafts_822 : decode cL_drafts 822 = .ok (.iload 6, 2) := by decide +kernel
theorem dL_drafts_824 : decode cL_drafts 824 = .ok (.iastore, 1) := by decide +kernel
theorem dL_drafts_825 : decode cL_drafts 825 = .ok (.aload 4, 2) := by decide +kernel
theorem dL_drafts_827 : decode cL_drafts 827 = .ok (.iconst 3, 1) := by decide +kernel
theorem dL_drafts_828 : decode cL_drafts 828 = .ok (.dup2, 1) := by decide +kernel
theorem dL_drafts_829 : decode cL_drafts 829 = .ok (.iaload, 1) := by decide +kernel
theorem dL_drafts_830 : decode cL_drafts 830 = .ok (.iconst 1, 1) := by decide +kernel
theorem dL_drafts_831 : decode cL_drafts 831 = .ok (.iadd, 1) := by decide +kernel
theorem dL_drafts_832 : decode cL_drafts 832 = .ok (.iastore, 1) := by decide +kernel
theorem dL_drafts_833 : decode cL_drafts 833 = .ok (.aload_n 0, 1) := by decide +kernel
theorem dL_drafts_834 : decode cL_drafts 834 = .ok (.iload 5, 2) := by decide +kernel
theorem dL_drafts_836 : decode cL_drafts 836 = .ok (.iload 6, 2) := by decide +kernel
theorem dL_drafts_838 : decode cL_drafts 838 = .ok (.invokestatic 204, 3) := by decide +kernel
theorem dL_drafts_841 : decode cL_drafts 841 = .ok (.aload 4, 2) := by decide +kernel
theorem dL_drafts_843 : decode cL_drafts 843 = .ok (.iconst 3, 1) := by decide +kernel
theorem dL_drafts_844 : decode cL_drafts 844 = .ok (.iaload, 1) := by decide +kernel
theorem dL_drafts_845 : decode cL_drafts 845 = .ok (.if_icmp .ne 7, 3) := by decide +kernel
theorem dL_drafts_848 : decode cL_drafts 848 = .ok (.iconst 1, 1) := by decide +kernel
theorem dL_drafts_849 : decode cL_drafts 849 = .ok (.goto 4, 3) := by decide +kernel
theorem dL_drafts_852 : decode cL_drafts 852 = .ok (.iconst 0, 1) := by decide +kernel
theorem dL_drafts_853 : decode cL_drafts 853 = .ok (.ireturn, 1) := by decide +kernel
theorem dL_drafts_854 : decode cL_drafts 854 = .ok (.iload_n 1, 1) := by decide +kernel
theorem dL_drafts_855 : decode cL_drafts 855 = .ok (.bipush 11, 2) := by decide +kernel
theorem dL_drafts_857 : decode cL_drafts 857 = .ok (.if_icmp .ne 100, 3) := by decide +kernel
theorem dL_drafts_860 : decode cL_drafts 860 = .ok (.aload 4, 2) := by decide +kernel
theorem dL_drafts_862 : decode cL_drafts 862 = .ok (.iconst 4, 1) := by decide +kernel
theorem dL_drafts_863 : decode cL_drafts 863 = .ok (.iload_n 3, 1) := by decide +kernel
theorem dL_drafts_864 : decode cL_drafts 864 = .ok (.bipush 6, 2) := by decide +kernel
theorem dL_drafts_866 : decode cL_drafts 866 = .ok (.iand, 1) := by decide +kernel
theorem dL_drafts_867 : decode cL_drafts 867 = .ok (.ifCond .ne 16, 3) := by decide +kernel
theorem dL_drafts_870 : decode cL_drafts 870 = .ok (.iconst 1, 1) := by decide +kernel
theorem dL_drafts_871 : decode cL_drafts 871 = .ok (.iload_n 3, 1) := by decide +kernel
theorem dL_drafts_872 : decode cL_drafts 872 = .ok (.iconst 3, 1) := by decide +kernel
theorem dL_drafts_873 : decode cL_drafts 873 = .ok (.ishr, 1) := by decide +kernel
theorem dL_drafts_874 : decode cL_drafts 874 = .ok (.bipush 20, 2) := by decide +kernel
theorem dL_drafts_876 : decode cL_drafts 876 = .ok (.invokestatic 130, 3) := by decide +kernel
theorem dL_drafts_879 : decode cL_drafts 879 = .ok (.iadd, 1) := by decide +kernel
theorem dL_drafts_880 : decode cL_drafts 880 = .ok (.goto 5, 3) := by decide +kernel
theorem dL_drafts_883 : decode cL_drafts 883 = .ok (.bipush 20, 2) := by decide +kernel
theorem dL_drafts_885 : decode cL_drafts 885 = .ok (.iastore, 1) := by decide +kernel
theorem dL_drafts_886 : decode cL_drafts 886 = .ok (.aload 4, 2) := by decide +kernel
theorem dL_drafts_888 : decode cL_drafts 888 = .ok (.iconst 5, 1) := by decide +kernel
theorem dL_drafts_889 : decode cL_drafts 889 = .ok (.iload_n 2, 1) := by decide +kernel
theorem dL_drafts_890 : decode cL_drafts 890 = .ok (.bipush 96, 2) := by decide +kernel
theorem dL_drafts_892 : decode cL_drafts 892 = .ok (.iand, 1) := by decide +kernel
theorem dL_drafts_893 : decode cL_drafts 893 = .ok (.ifCond .ne 7, 3) := by decide +kernel
theorem dL_drafts_896 : decode cL_drafts 896 = .ok (.iconst 1, 1) := by decide +kernel
theorem dL_drafts_897 : decode cL_drafts 897 = .ok (.goto 4, 3) := by decide +kernel
theorem dL_drafts_900 : decode cL_drafts 900 = .ok (.iconst 0, 1) := by decide +kernel
theorem dL_drafts_901 : decode cL_drafts 901 = .ok (.iastore, 1) := by decide +kernel
theorem dL_drafts_902 : decode cL_drafts 902 = .ok (.aload_n 0, 1) := by decide +kernel
theorem dL_drafts_903 : decode cL_drafts 903 = .ok (.iconst 0, 1) := by decide +kernel
theorem dL_drafts_904 : decode cL_drafts 904 = .ok (.iconst 1, 1) := by decide +kernel
theorem dL_drafts_905 : decode cL_drafts 905 = .ok (.invokestatic 206, 3) := by decide +kernel
theorem dL_drafts_908 : decode cL_drafts 908 = .ok (.sipush (-7200), 3) := by decide +kernel
theorem dL_drafts_911 : decode cL_drafts 911 = .ok (.if_icmp .ne 44, 3) := by decide +kernel
theorem dL_drafts_914 : decode cL_drafts 914 = .ok (.aload_n 0, 1) := by decide +kernel
theorem dL_drafts_915 : decode cL_drafts 915 = .ok (.bipush 41, 2) := by decide +kernel
theorem dL_drafts_917 : decode cL_drafts 917 = .ok (.iconst 1, 1) := by decide +kernel
theorem dL_drafts_918 : decode cL_drafts 918 = .ok (.invokestatic 206, 3) := by decide +kernel
theorem dL_drafts_921 : decode cL_drafts 921 = .ok (.sipush (-7200), 3) := by decide +kernel
theorem dL_drafts_924 : decode cL_drafts 924 = .ok (.if_icmp .ne 31, 3) := by decide +kernel
theorem dL_drafts_927 : decode cL_drafts 927 = .ok (.aload_n 0, 1) := by decide +kernel
theorem dL_drafts_928 : decode cL_drafts 928 = .ok (.aload 4, 2) := by decide +kernel
theorem dL_drafts_930 : decode cL_drafts 930 = .ok (.iconst 4, 1) := by decide +kernel
theorem dL_drafts_931 : decode cL_drafts 931 = .ok (.iaload, 1) := by decide +kernel
theorem dL_drafts_932 : decode cL_drafts 932 = .ok (.aload 4, 2) := by decide +kernel
theorem dL_drafts_934 : decode cL_drafts 934 = .ok (.iconst 5, 1) := by decide +kernel
theorem dL_drafts_935 : decode cL_drafts 935 = .ok (.iaload, 1) := by decide +kernel
theorem dL_drafts_936 : decode cL_drafts 936 = .ok (.iconst 1, 1) := by decide +kernel
theorem dL_drafts_937 : decode cL_drafts 937 = .ok (.if_icmp .ne 7, 3) := by decide +kernel
theorem dL_drafts_940 : decode cL_drafts 940 = .ok (.iconst 1, 1) := by decide +kernel
theorem dL_drafts_941 : decode cL_drafts 941 = .ok (.goto 4, 3) := by decide +kernel
theorem dL_drafts_944 : decode cL_drafts 944 = .ok (.iconst 0, 1) := by decide +kernel
theorem dL_drafts_945 : decode cL_drafts 945 = .ok (.invokestatic 206, 3) := by decide +kernel
theorem dL_drafts_948 : decode cL_drafts 948 = .ok (.ifCond .ne 7, 3) := by decide +kernel
theorem dL_drafts_951 : decode cL_drafts 951 = .ok (.iconst 1, 1) := by decide +kernel
theorem dL_drafts_952 : decode cL_drafts 952 = .ok (.goto 4, 3) := by decide +kernel
theorem dL_drafts_955 : decode cL_drafts 955 = .ok (.iconst 0, 1) := by decide +kernel
theorem dL_drafts_956 : decode cL_drafts 956 = .ok (.ireturn, 1) := by decide +kernel
theorem dL_drafts_957 : decode cL_drafts 957 = .ok (.aload 4, 2) := by decide +kernel
theorem dL_drafts_959 : decode cL_drafts 959 = .ok (.iconst 0, 1) := by decide +kernel
theorem dL_drafts_960 : decode cL_drafts 960 = .ok (.iaload, 1) := by decide +kernel
theorem dL_drafts_961 : decode cL_drafts 961 = .ok (.istore 7, 2) := by decide +kernel
theorem dL_drafts_963 : decode cL_drafts 963 = .ok (.iconst 0, 1) := by decide +kernel
theorem dL_drafts_964 : decode cL_drafts 964 = .ok (.istore 8, 2) := by decide +kernel
theorem dL_drafts_966 : decode cL_drafts 966 = .ok (.iload 8, 2) := by decide +kernel
theorem dL_drafts_968 : decode cL_drafts 968 = .ok (.bipush 43, 2) := by decide +kernel
theorem dL_drafts_970 : decode cL_drafts 970 = .ok (.if_icmp .ge 15, 3) := by decide +kernel
theorem dL_drafts_973 : decode cL_drafts 973 = .ok (.aload 4, 2) := by decide +kernel
theorem dL_drafts_975 : decode cL_drafts 975 = .ok (.iload 8, 2) := by decide +kernel
theorem dL_drafts_977 : decode cL_drafts 977 = .ok (.iconst 0, 1) := by decide +kernel
theorem dL_drafts_978 : decode cL_drafts 978 = .ok (.iastore, 1) := by decide +kernel
theorem dL_drafts_979 : decode cL_drafts 979 = .ok (.iinc 8 1, 3) := by decide +kernel
theorem dL_drafts_982 : decode cL_drafts 982 = .ok (.goto (-16), 3) := by decide +kernel
theorem dL_drafts_985 : decode cL_drafts 985 = .ok (.aload 4, 2) := by decide +kernel
theorem dL_drafts_987 : decode cL_drafts 987 = .ok (.iconst 4, 1) := by decide +kernel
theorem dL_drafts_988 : decode cL_drafts 988 = .ok (.bipush 20, 2) := by decide +kernel
theorem dL_drafts_990 : decode cL_drafts 990 = .ok (.iastore, 1) := by decide +kernel
theorem dL_drafts_991 : decode cL_drafts 991 = .ok (.aload_n 0, 1) := by decide +kernel
theorem dL_drafts_992 : decode cL_drafts 992 = .ok (.invokevirtual 209, 3) := by decide +kernel
theorem dL_drafts_995 : decode cL_drafts 995 = .ok (.iload 7, 2) := by decide +kernel
theorem dL_drafts_997 : decode cL_drafts 997 = .ok (.if_icmp .ne 17, 3) := by decide +kernel
theorem dL_drafts_1000 : decode cL_drafts 1000 = .ok (.aload_n 0, 1) := by decide +kernel
theorem dL_drafts_1001 : decode cL_drafts 1001 = .ok (.bipush 20, 2) := by decide +kernel
theorem dL_drafts_1003 : decode cL_drafts 1003 = .ok (.iconst 0, 1) := by decide +kernel
theorem dL_drafts_1004 : decode cL_drafts 1004 = .ok (.invokestatic 206, 3) := by decide +kernel
theorem dL_drafts_1007 : decode cL_drafts 1007 = .ok (.ifCond .ne 7, 3) := by decide +kernel
theorem dL_drafts_1010 : decode cL_drafts 1010 = .ok (.iconst 1, 1) := by decide +kernel
theorem dL_drafts_1011 : decode cL_drafts 1011 = .ok (.goto 4, 3) := by decide +kernel
theorem dL_drafts_1014 : decode cL_drafts 1014 = .ok (.iconst 0, 1) := by decide +kernel
theorem dL_drafts_1015 : decode cL_drafts 1015 = .ok (.ireturn, 1) := by decide +kernel
theorem dL_holds_0 : decode cL_holds 0 = .ok (.iload_n 0, 1) := by decide +kernel
theorem dL_holds_1 : decode cL_holds 1 = .ok (.iconst 3, 1) := by decide +kernel
theorem dL_holds_2 : decode cL_holds 2 = .ok (.if_icmp .ne 18, 3) := by decide +kernel
theorem dL_holds_5 : decode cL_holds 5 = .ok (.iload_n 2, 1) := by decide +kernel
theorem dL_holds_6 : decode cL_holds 6 = .ok (.sipush 5000, 3) := by decide +kernel
theorem dL_holds_9 : decode cL_holds 9 = .ok (.if_icmp .ne 7, 3) := by decide +kernel
theorem dL_holds_12 : decode cL_holds 12 = .ok (.iconst 1, 1) := by decide +kernel
theorem dL_holds_13 : decode cL_holds 13 = .ok (.goto 69, 3) := by decide +kernel
theorem dL_holds_16 : decode cL_holds 16 = .ok (.iconst 0, 1) := by decide +kernel
theorem dL_holds_17 : decode cL_holds 17 = .ok (.goto 65, 3) := by decide +kernel
theorem dL_holds_20 : decode cL_holds 20 = .ok (.iload_n 0, 1) := by decide +kernel
theorem dL_holds_21 : decode cL_holds 21 = .ok (.iconst 4, 1) := by decide +kernel
theorem dL_holds_22 : decode cL_holds 22 = .ok (.if_icmp .ne 18, 3) := by decide +kernel
theorem dL_holds_25 : decode cL_holds 25 = .ok (.iload_n 2, 1) := by decide +kernel
theorem dL_holds_26 : decode cL_holds 26 = .ok (.sipush 5001, 3) := by decide +kernel
theorem dL_holds_29 : decode cL_holds 29 = .ok (.if_icmp .ne 7, 3) := by decide +kernel
theorem dL_holds_32 : decode cL_holds 32 = .ok (.iconst 1, 1) := by decide +kernel
theorem dL_holds_33 : decode cL_holds 33 = .ok (.goto 49, 3) := by decide +kernel
theorem dL_holds_36 : decode cL_holds 36 = .ok (.iconst 0, 1) := by decide +kernel
theorem dL_holds_37 : decode cL_holds 37 = .ok (.goto 45, 3) := by decide +kernel
theorem dL_holds_40 : decode cL_holds 40 = .ok (.iload_n 2, 1) := by decide +kernel
theorem dL_holds_41 : decode cL_holds 41 = .ok (.invokestatic 109, 3) := by decide +kernel
theorem dL_holds_44 : decode cL_holds 44 = .ok (.ifCond .eq 37, 3) := by decide +kernel
theorem dL_holds_47 : decode cL_holds 47 = .ok (.iload_n 0, 1) := by decide +kernel
theorem dL_holds_48 : decode cL_holds 48 = .ok (.ifCond .ne 11, 3) := by decide +kernel
theorem dL_holds_51 : decode cL_holds 51 = .ok (.iload_n 2, 1) := by decide +kernel
theorem dL_holds_52 : decode cL_holds 52 = .ok (.iload_n 1, 1) := by decide +kernel
theorem dL_holds_53 : decode cL_holds 53 = .ok (.if_icmp .ne 28, 3) := by decide +kernel
theorem dL_holds_56 : decode cL_holds 56 = .ok (.goto 21, 3) := by decide +kernel
theorem dL_holds_59 : decode cL_holds 59 = .ok (.iload_n 0, 1) := by decide +kernel
theorem dL_holds_60 : decode cL_holds 60 = .ok (.iconst 1, 1) := by decide +kernel
theorem dL_holds_61 : decode cL_holds 61 = .ok (.if_icmp .ne 11, 3) := by decide +kernel
theorem dL_holds_64 : decode cL_holds 64 = .ok (.iload_n 2, 1) := by decide +kernel
theorem dL_holds_65 : decode cL_holds 65 = .ok (.iload_n 1, 1) := by decide +kernel
theorem dL_holds_66 : decode cL_holds 66 = .ok (.if_icmp .ge 15, 3) := by decide +kernel
theorem dL_holds_69 : decode cL_holds 69 = .ok (.goto 8, 3) := by decide +kernel
theorem dL_holds_72 : decode cL_holds 72 = .ok (.iload_n 2, 1) := by decide +kernel
theorem dL_holds_73 : decode cL_holds 73 = .ok (.iload_n 1, 1) := by decide +kernel
theorem dL_holds_74 : decode cL_holds 74 = .ok (.if_icmp .le 7, 3) := by decide +kernel
theorem dL_holds_77 : decode cL_holds 77 = .ok (.iconst 1, 1) := by decide +kernel
theorem dL_holds_78 : decode cL_holds 78 = .ok (.goto 4, 3) := by decide +kernel
theorem dL_holds_81 : decode cL_holds 81 = .ok (.iconst 0, 1) := by decide +kernel
theorem dL_holds_82 : decode cL_holds 82 = .ok (.ireturn, 1) := by decide +kernel
theorem dL_done_0 : decode cL_done 0 = .ok (.iload_n 0, 1) := by decide +kernel
theorem dL_done_1 : decode cL_done 1 = .ok (.ifCond .ne 16, 3) := by decide +kernel
theorem dL_done_4 : decode cL_done 4 = .ok (.iload_n 2, 1) := by decide +kernel
theorem dL_done_5 : decode cL_done 5 = .ok (.iconst 4, 1) := by decide +kernel
theorem dL_done_6 : decode cL_done 6 = .ok (.if_icmp .ge 7, 3) := by decide +kernel
theorem dL_done_9 : decode cL_done 9 = .ok (.iconst 1, 1) := by decide +kernel
theorem dL_done_10 : decode cL_done 10 = .ok (.goto 52, 3) := by decide +kernel
theorem dL_done_13 : decode cL_done 13 = .ok (.iconst 0, 1) := by decide +kernel
theorem dL_done_14 : decode cL_done 14 = .ok (.goto 48, 3) := by decide +kernel
theorem dL_done_17 : decode cL_done 17 = .ok (.iload_n 0, 1) := by decide +kernel
theorem dL_done_18 : decode cL_done 18 = .ok (.iconst 1, 1) := by decide +kernel
theorem dL_done_19 : decode cL_done 19 = .ok (.if_icmp .ne 20, 3) := by decide +kernel
theorem dL_done_22 : decode cL_done 22 = .ok (.iload_n 1, 1) := by decide +kernel
theorem dL_done_23 : decode cL_done 23 = .ok (.ifCond .ne 12, 3) := by decide +kernel
theorem dL_done_26 : decode cL_done 26 = .ok (.iload_n 2, 1) := by decide +kernel
theorem dL_done_27 : decode cL_done 27 = .ok (.iconst 3, 1) := by decide +kernel
theorem dL_done_28 : decode cL_done 28 = .ok (.if_icmp .ge 7, 3) := by decide +kernel
theorem dL_done_31 : decode cL_done 31 = .ok (.iconst 1, 1) := by decide +kernel
theorem dL_done_32 : decode cL_done 32 = .ok (.goto 30, 3) := by decide +kernel
theorem dL_done_35 : decode cL_done 35 = .ok (.iconst 0, 1) := by decide +kernel
theorem dL_done_36 : decode cL_done 36 = .ok (.goto 26, 3) := by decide +kernel
theorem dL_done_39 : decode cL_done 39 = .ok (.iload_n 2, 1) := by decide +kernel
theorem dL_done_40 : decode cL_done 40 = .ok (.ifCond .eq 17, 3) := by decide +kernel
theorem dL_done_43 : decode cL_done 43 = .ok (.iload_n 2, 1) := by decide +kernel
theorem dL_done_44 : decode cL_done 44 = .ok (.iconst 4, 1) := by decide +kernel
theorem dL_done_45 : decode cL_done 45 = .ok (.if_icmp .eq 12, 3) := by decide +kernel
theorem dL_done_48 : decode cL_done 48 = .ok (.iload_n 2, 1) := by decide +kernel
theorem dL_done_49 : decode cL_done 49 = .ok (.iconst 3, 1) := by decide +kernel
theorem dL_done_50 : decode cL_done 50 = .ok (.if_icmp .ge 11, 3) := by decide +kernel
theorem dL_done_53 : decode cL_done 53 = .ok (.iload_n 1, 1) := by decide +kernel
theorem dL_done_54 : decode cL_done 54 = .ok (.ifCond .ne 7, 3) := by decide +kernel
theorem dL_done_57 : decode cL_done 57 = .ok (.iconst 1, 1) := by decide +kernel
theorem dL_done_58 : decode cL_done 58 = .ok (.goto 4, 3) := by decide +kernel
theorem dL_done_61 : decode cL_done 61 = .ok (.iconst 0, 1) := by decide +kernel
theorem dL_done_62 : decode cL_done 62 = .ok (.ireturn, 1) := by decide +kernel
theorem dL_sent_0 : decode cL_sent 0 = .ok (.aload_n 0, 1) := by decide +kernel
theorem dL_sent_1 : decode cL_sent 1 = .ok (.bipush 21, 2) := by decide +kernel
theorem dL_sent_3 : decode cL_sent 3 = .ok (.iconst 4, 1) := by decide +kernel
theorem dL_sent_4 : decode cL_sent 4 = .ok (.iload_n 1, 1) := by decide +kernel
theorem dL_sent_5 : decode cL_sent 5 = .ok (.imul, 1) := by decide +kernel
theorem dL_sent_6 : decode cL_sent 6 = .ok (.iadd, 1) := by decide +kernel
theorem dL_sent_7 : decode cL_sent 7 = .ok (.iaload, 1) := by decide +kernel
theorem dL_sent_8 : decode cL_sent 8 = .ok (.iload_n 2, 1) := by decide +kernel
theorem dL_sent_9 : decode cL_sent 9 = .ok (.if_icmp .ne 37, 3) := by decide +kernel
theorem dL_sent_12 : decode cL_sent 12 = .ok (.aload_n 0, 1) := by decide +kernel
theorem dL_sent_13 : decode cL_sent 13 = .ok (.bipush 6, 2) := by decide +kernel
theorem dL_sent_15 : decode cL_sent 15 = .ok (.iload_n 2, 1) := by decide +kernel
theorem dL_sent_16 : decode cL_sent 16 = .ok (.iadd, 1) := by decide +kernel
theorem dL_sent_17 : decode cL_sent 17 = .ok (.iaload, 1) := by decide +kernel
theorem dL_sent_18 : decode cL_sent 18 = .ok (.iconst 2, 1) := by decide +kernel
theorem dL_sent_19 : decode cL_sent 19 = .ok (.idiv, 1) := by decide +kernel
theorem dL_sent_20 : decode cL_sent 20 = .ok (.aload_n 0, 1) := by decide +kernel
theorem dL_sent_21 : decode cL_sent 21 = .ok (.bipush 22, 2) := by decide +kernel
theorem dL_sent_23 : decode cL_sent 23 = .ok (.iconst 4, 1) := by decide +kernel
theorem dL_sent_24 : decode cL_sent 24 = .ok (.iload_n 1, 1) := by decide +kernel
theorem dL_sent_25 : decode cL_sent 25 = .ok (.imul, 1) := by decide +kernel
theorem dL_sent_26 : decode cL_sent 26 = .ok (.iadd, 1) := by decide +kernel
theorem dL_sent_27 : decode cL_sent 27 = .ok (.iaload, 1) := by decide +kernel
theorem dL_sent_28 : decode cL_sent 28 = .ok (.aload_n 0, 1) := by decide +kernel
theorem dL_sent_29 : decode cL_sent 29 = .ok (.bipush 23, 2) := by decide +kernel
theorem dL_sent_31 : decode cL_sent 31 = .ok (.iconst 4, 1) := by decide +kernel
theorem dL_sent_32 : decode cL_sent 32 = .ok (.iload_n 1, 1) := by decide +kernel
theorem dL_sent_33 : decode cL_sent 33 = .ok (.imul, 1) := by decide +kernel
theorem dL_sent_34 : decode cL_sent 34 = .ok (.iadd, 1) := by decide +kernel
theorem dL_sent_35 : decode cL_sent 35 = .ok (.iaload, 1) := by decide +kernel
theorem dL_sent_36 : decode cL_sent 36 = .ok (.invokestatic 212, 3) := by decide +kernel
theorem dL_sent_39 : decode cL_sent 39 = .ok (.ifCond .eq 7, 3) := by decide +kernel
theorem dL_sent_42 : decode cL_sent 42 = .ok (.iconst 1, 1) := by decide +kernel
theorem dL_sent_43 : decode cL_sent 43 = .ok (.goto 4, 3) := by decide +kernel
theorem dL_sent_46 : decode cL_sent 46 = .ok (.iconst 0, 1) := by decide +kernel
theorem dL_sent_47 : decode cL_sent 47 = .ok (.ireturn, 1) := by decide +kernel
theorem dL_hold_0 : decode cL_hold 0 = .ok (.iconst 0, 1) := by decide +kernel
theorem dL_hold_1 : decode cL_hold 1 = .ok (.istore 5, 2) := by decide +kernel
theorem dL_hold_3 : decode cL_hold 3 = .ok (.iload 5, 2) := by decide +kernel
theorem dL_hold_5 : decode cL_hold 5 = .ok (.aload_n 0, 1) := by decide +kernel
theorem dL_hold_6 : decode cL_hold 6 = .ok (.iconst 2, 1) := by decide +kernel
theorem dL_hold_7 : decode cL_hold 7 = .ok (.iaload, 1) := by decide +kernel
theorem dL_hold_8 : decode cL_hold 8 = .ok (.if_icmp .ge 76, 3) := by decide +kernel
theorem dL_hold_11 : decode cL_hold 11 = .ok (.aload_n 0, 1) := by decide +kernel
theorem dL_hold_12 : decode cL_hold 12 = .ok (.bipush 21, 2) := by decide +kernel
theorem dL_hold_14 : decode cL_hold 14 = .ok (.iconst 4, 1) := by decide +kernel
theorem dL_hold_15 : decode cL_hold 15 = .ok (.iload 5, 2) := by decide +kernel
theorem dL_hold_17 : decode cL_hold 17 = .ok (.imul, 1) := by decide +kernel
theorem dL_hold_18 : decode cL_hold 18 = .ok (.iadd, 1) := by decide +kernel
theorem dL_hold_19 : decode cL_hold 19 = .ok (.iaload, 1) := by decide +kernel
theorem dL_hold_20 : decode cL_hold 20 = .ok (.iload_n 1, 1) := by decide +kernel
theorem dL_hold_21 : decode cL_hold 21 = .ok (.if_icmp .ne 57, 3) := by decide +kernel
theorem dL_hold_24 : decode cL_hold 24 = .ok (.iload 4, 2) := by decide +kernel
theorem dL_hold_26 : decode cL_hold 26 = .ok (.ifCond .ne 13, 3) := by decide +kernel
theorem dL_hold_29 : decode cL_hold 29 = .ok (.aload_n 0, 1) := by decide +kernel
theorem dL_hold_30 : decode cL_hold 30 = .ok (.iload 5, 2) := by decide +kernel
theorem dL_hold_32 : decode cL_hold 32 = .ok (.iload_n 1, 1) := by decide +kernel
theorem dL_hold_33 : decode cL_hold 33 = .ok (.invokestatic 215, 3) := by decide +kernel
theorem dL_hold_36 : decode cL_hold 36 = .ok (.ifCond .eq 42, 3) := by decide +kernel
theorem dL_hold_39 : decode cL_hold 39 = .ok (.aload_n 0, 1) := by decide +kernel
theorem dL_hold_40 : decode cL_hold 40 = .ok (.bipush 23, 2) := by decide +kernel
theorem dL_hold_42 : decode cL_hold 42 = .ok (.iconst 4, 1) := by decide +kernel
theorem dL_hold_43 : decode cL_hold 43 = .ok (.iload 5, 2) := by decide +kernel
theorem dL_hold_45 : decode cL_hold 45 = .ok (.imul, 1) := by decide +kernel
theorem dL_hold_46 : decode cL_hold 46 = .ok (.iadd, 1) := by decide +kernel
theorem dL_hold_47 : decode cL_hold 47 = .ok (.iaload, 1) := by decide +kernel
theorem dL_hold_48 : decode cL_hold 48 = .ok (.aload_n 0, 1) := by decide +kernel
theorem dL_hold_49 : decode cL_hold 49 = .ok (.bipush 24, 2) := by decide +kernel
theorem dL_hold_51 : decode cL_hold 51 = .ok (.iconst 4, 1) := by decide +kernel
theorem dL_hold_52 : decode cL_hold 52 = .ok (.iload 5, 2) := by decide +kernel
theorem dL_hold_54 : decode cL_hold 54 = .ok (.imul, 1) := by decide +kernel
theorem dL_hold_55 : decode cL_hold 55 = .ok (.iadd, 1) := by decide +kernel
theorem dL_hold_56 : decode cL_hold 56 = .ok (.iaload, 1) := by decide +kernel
theorem dL_hold_57 : decode cL_hold 57 = .ok (.lload_n 2, 1) := by decide +kernel
theorem dL_hold_58 : decode cL_hold 58 = .ok (.aload_n 0, 1) := by decide +kernel
theorem dL_hold_59 : decode cL_hold 59 = .ok (.bipush 22, 2) := by decide +kernel
theorem dL_hold_61 : decode cL_hold 61 = .ok (.iconst 4, 1) := by decide +kernel
theorem dL_hold_62 : decode cL_hold 62 = .ok (.iload 5, 2) := by decide +kernel
theorem dL_hold_64 : decode cL_hold 64 = .ok (.imul, 1) := by decide +kernel
theorem dL_hold_65 : decode cL_hold 65 = .ok (.iadd, 1) := by decide +kernel
theorem dL_hold_66 : decode cL_hold 66 = .ok (.iaload, 1) := by decide +kernel
theorem dL_hold_67 : decode cL_hold 67 = .ok (.invokestatic 169, 3) := by decide +kernel
theorem dL_hold_70 : decode cL_hold 70 = .ok (.invokestatic 219, 3) := by decide +kernel
theorem dL_hold_73 : decode cL_hold 73 = .ok (.ifCond .ne 5, 3) := by decide +kernel
theorem dL_hold_76 : decode cL_hold 76 = .ok (.iconst 0, 1) := by decide +kernel
theorem dL_hold_77 : decode cL_hold 77 = .ok (.ireturn, 1) := by decide +kernel
theorem dL_hold_78 : decode cL_hold 78 = .ok (.iinc 5 1, 3) := by decide +kernel
theorem dL_hold_81 : decode cL_hold 81 = .ok (.goto (-78), 3) := by decide +kernel
theorem dL_hold_84 : decode cL_hold 84 = .ok (.iconst 1, 1) := by decide +kernel
theorem dL_hold_85 : decode cL_hold 85 = .ok (.ireturn, 1) := by decide +kernel
theorem dL_fee_0 : decode cL_fee 0 = .ok (.iload_n 0, 1) := by decide +kernel
theorem dL_fee_1 : decode cL_fee 1 = .ok (.ifCond .ne 7, 3) := by decide +kernel
theorem dL_fee_4 : decode cL_fee 4 = .ok (.iconst 5, 1) := by decide +kernel
theorem dL_fee_5 : decode cL_fee 5 = .ok (.goto 13, 3) := by decide +kernel
theorem dL_fee_8 : decode cL_fee 8 = .ok (.iload_n 0, 1) := by decide +kernel
theorem dL_fee_9 : decode cL_fee 9 = .ok (.iconst 1, 1) := by decide +kernel
theorem dL_fee_10 : decode cL_fee 10 = .ok (.if_icmp .ne 7, 3) := by decide +kernel
theorem dL_fee_13 : decode cL_fee 13 = .ok (.iconst 1, 1) := by decide +kernel
theorem dL_fee_14 : decode cL_fee 14 = .ok (.goto 4, 3) := by decide +kernel
theorem dL_fee_17 : decode cL_fee 17 = .ok (.iconst 3, 1) := by decide +kernel
theorem dL_fee_18 : decode cL_fee 18 = .ok (.ireturn, 1) := by decide +kernel
theorem dL_freight_0 : decode cL_freight 0 = .ok (.iload_n 0, 1) := by decide +kernel
theorem dL_freight_1 : decode cL_freight 1 = .ok (.iconst 2, 1) := by decide +kernel
theorem dL_freight_2 : decode cL_freight 2 = .ok (.if_icmp .ne 7, 3) := by decide +kernel
theorem dL_freight_5 : decode cL_freight 5 = .ok (.iconst 2, 1) := by decide +kernel
theorem dL_freight_6 : decode cL_freight 6 = .ok (.goto 4, 3) := by decide +kernel
theorem dL_freight_9 : decode cL_freight 9 = .ok (.iconst 1, 1) := by decide +kernel
theorem dL_freight_10 : decode cL_freight 10 = .ok (.ireturn, 1) := by decide +kernel
theorem dL_guess_0 : decode cL_guess 0 = .ok (.aload_n 1, 1) := by decide +kernel
theorem dL_guess_1 : decode cL_guess 1 = .ok (.aload_n 0, 1) := by decide +kernel
theorem dL_guess_2 : decode cL_guess 2 = .ok (.bipush 6, 2) := by decide +kernel
theorem dL_guess_4 : decode cL_guess 4 = .ok (.iload_n 2, 1) := by decide +kernel
theorem dL_guess_5 : decode cL_guess 5 = .ok (.iadd, 1) := by decide +kernel
theorem dL_guess_6 : decode cL_guess 6 = .ok (.iaload, 1) := by decide +kernel
theorem dL_guess_7 : decode cL_guess 7 = .ok (.iaload, 1) := by decide +kernel
theorem dL_guess_8 : decode cL_guess 8 = .ok (.istore_n 3, 1) := by decide +kernel
theorem dL_guess_9 : decode cL_guess 9 = .ok (.iconst 0, 1) := by decide +kernel
theorem dL_guess_10 : decode cL_guess 10 = .ok (.istore 4, 2) := by decide +kernel
theorem dL_guess_12 : decode cL_guess 12 = .ok (.iload 4, 2) := by decide +kernel
theorem dL_guess_14 : decode cL_guess 14 = .ok (.aload_n 0, 1) := by decide +kernel
theorem dL_guess_15 : decode cL_guess 15 = .ok (.iconst 2, 1) := by decide +kernel
theorem dL_guess_16 : decode cL_guess 16 = .ok (.iaload, 1) := by decide +kernel
theorem dL_guess_17 : decode cL_guess 17 = .ok (.if_icmp .ge 27, 3) := by decide +kernel
theorem dL_guess_20 : decode cL_guess 20 = .ok (.aload_n 0, 1) := by decide +kernel
theorem dL_guess_21 : decode cL_guess 21 = .ok (.iload 4, 2) := by decide +kernel
theorem dL_guess_23 : decode cL_guess 23 = .ok (.iload_n 2, 1) := by decide +kernel
theorem dL_guess_24 : decode cL_guess 24 = .ok (.invokestatic 215, 3) := by decide +kernel
theorem dL_guess_27 : decode cL_guess 27 = .ok (.ifCond .eq 9, 3) := by decide +kernel
theorem dL_guess_30 : decode cL_guess 30 = .ok (.iload_n 3, 1) := by decide +kernel
theorem dL_guess_31 : decode cL_guess 31 = .ok (.iconst 1, 1) := by decide +kernel
theorem dL_guess_32 : decode cL_guess 32 = .ok (.ishr, 1) := by decide +kernel
theorem dL_guess_33 : decode cL_guess 33 = .ok (.goto 4, 3) := by decide +kernel
theorem dL_guess_36 : decode cL_guess 36 = .ok (.iload_n 3, 1) := by decide +kernel
theorem dL_guess_37 : decode cL_guess 37 = .ok (.istore_n 3, 1) := by decide +kernel
theorem dL_guess_38 : decode cL_guess 38 = .ok (.iinc 4 1, 3) := by decide +kernel
theorem dL_guess_41 : decode cL_guess 41 = .ok (.goto (-29), 3) := by decide +kernel
theorem dL_guess_44 : decode cL_guess 44 = .ok (.iload_n 3, 1) := by decide +kernel
theorem dL_guess_45 : decode cL_guess 45 = .ok (.ifCond .le 7, 3) := by decide +kernel
theorem dL_guess_48 : decode cL_guess 48 = .ok (.iload_n 3, 1) := by decide +kernel
theorem dL_guess_49 : decode cL_guess 49 = .ok (.goto 4, 3) := by decide +kernel
theorem dL_guess_52 : decode cL_guess 52 = .ok (.iconst 1, 1) := by decide +kernel
theorem dL_guess_53 : decode cL_guess 53 = .ok (.ireturn, 1) := by decide +kernel
theorem dL_attempt_0 : decode cL_attempt 0 = .ok (.aload_n 1, 1) := by decide +kernel
theorem dL_attempt_1 : decode cL_attempt 1 = .ok (.bipush 21, 2) := by decide +kernel
theorem dL_attempt_3 : decode cL_attempt 3 = .ok (.iload 5, 2) := by decide +kernel
theorem dL_attempt_5 : decode cL_attempt 5 = .ok (.iadd, 1) := by decide +kernel
theorem dL_attempt_6 : decode cL_attempt 6 = .ok (.iaload, 1) := by decide +kernel
theorem dL_attempt_7 : decode cL_attempt 7 = .ok (.aload 4, 2) := by decide +kernel
theorem dL_attempt_9 : decode cL_attempt 9 = .ok (.iconst 1, 1) := by decide +kernel
theorem dL_attempt_10 : decode cL_attempt 10 = .ok (.iaload, 1) := by decide +kernel
theorem dL_attempt_11 : decode cL_attempt 11 = .ok (.bipush 10, 2) := by decide +kernel
theorem dL_attempt_13 : decode cL_attempt 13 = .ok (.idiv, 1) := by decide +kernel
theorem dL_attempt_14 : decode cL_attempt 14 = .ok (.if_icmp .ne 37, 3) := by decide +kernel
theorem dL_attempt_17 : decode cL_attempt 17 = .ok (.aload_n 1, 1) := by decide +kernel
theorem dL_attempt_18 : decode cL_attempt 18 = .ok (.bipush 24, 2) := by decide +kernel
theorem dL_attempt_20 : decode cL_attempt 20 = .ok (.iload 5, 2) := by decide +kernel
theorem dL_attempt_22 : decode cL_attempt 22 = .ok (.iadd, 1) := by decide +kernel
theorem dL_attempt_23 : decode cL_attempt 23 = .ok (.iaload, 1) := by decide +kernel
theorem dL_attempt_24 : decode cL_attempt 24 = .ok (.aload_n 1, 1) := by decide +kernel
theorem dL_attempt_25 : decode cL_attempt 25 = .ok (.bipush 6, 2) := by decide +kernel
theorem dL_attempt_27 : decode cL_attempt 27 = .ok (.iload 5, 2) := by decide +kernel
theorem dL_attempt_29 : decode cL_attempt 29 = .ok (.iadd, 1) := by decide +kernel
theorem dL_attempt_30 : decode cL_attempt 30 = .ok (.iaload, 1) := by decide +kernel
theorem dL_attempt_31 : decode cL_attempt 31 = .ok (.if_icmp .lt 20, 3) := by decide +kernel
theorem dL_attempt_34 : decode cL_attempt 34 = .ok (.aload 4, 2) := by decide +kernel
theorem dL_attempt_36 : decode cL_attempt 36 = .ok (.iconst 1, 1) := by decide +kernel
theorem dL_attempt_37 : decode cL_attempt 37 = .ok (.aload 4, 2) := by decide +kernel
theorem dL_attempt_39 : decode cL_attempt 39 = .ok (.iconst 1, 1) := by decide +kernel
theorem dL_attempt_40 : decode cL_attempt 40 = .ok (.iaload, 1) := by decide +kernel
theorem dL_attempt_41 : decode cL_attempt 41 = .ok (.bipush 10, 2) := by decide +kernel
theorem dL_attempt_43 : decode cL_attempt 43 = .ok (.idiv, 1) := by decide +kernel
theorem dL_attempt_44 : decode cL_attempt 44 = .ok (.bipush 10, 2) := by decide +kernel
theorem dL_attempt_46 : decode cL_attempt 46 = .ok (.imul, 1) := by decide +kernel
theorem dL_attempt_47 : decode cL_attempt 47 = .ok (.bipush 10, 2) := by decide +kernel
theorem dL_attempt_49 : decode cL_attempt 49 = .ok (.iadd, 1) := by decide +kernel
theorem dL_attempt_50 : decode cL_attempt 50 = .ok (.iastore, 1) := by decide +kernel
theorem dL_attempt_51 : decode cL_attempt 51 = .ok (.aload_n 2, 1) := by decide +kernel
theorem dL_attempt_52 : decode cL_attempt 52 = .ok (.aload_n 3, 1) := by decide +kernel
theorem dL_attempt_53 : decode cL_attempt 53 = .ok (.aload_n 0, 1) := by decide +kernel
theorem dL_attempt_54 : decode cL_attempt 54 = .ok (.aload_n 1, 1) := by decide +kernel
theorem dL_attempt_55 : decode cL_attempt 55 = .ok (.aload 4, 2) := by decide +kernel
theorem dL_attempt_57 : decode cL_attempt 57 = .ok (.invokestatic 113, 3) := by decide +kernel
theorem dL_attempt_60 : decode cL_attempt 60 = .ok (.iload 6, 2) := by decide +kernel
theorem dL_attempt_62 : decode cL_attempt 62 = .ok (.ifCond .eq 22, 3) := by decide +kernel
theorem dL_attempt_65 : decode cL_attempt 65 = .ok (.aload 4, 2) := by decide +kernel
theorem dL_attempt_67 : decode cL_attempt 67 = .ok (.iconst 1, 1) := by decide +kernel
theorem dL_attempt_68 : decode cL_attempt 68 = .ok (.iaload, 1) := by decide +kernel
theorem dL_attempt_69 : decode cL_attempt 69 = .ok (.aload 4, 2) := by decide +kernel
theorem dL_attempt_71 : decode cL_attempt 71 = .ok (.iconst 4, 1) := by decide +kernel
theorem dL_attempt_72 : decode cL_attempt 72 = .ok (.iaload, 1) := by decide +kernel
theorem dL_attempt_73 : decode cL_attempt 73 = .ok (.isub, 1) := by decide +kernel
theorem dL_attempt_74 : decode cL_attempt 74 = .ok (.aload 4, 2) := by decide +kernel
theorem dL_attempt_76 : decode cL_attempt 76 = .ok (.bipush 6, 2) := by decide +kernel
theorem dL_attempt_78 : decode cL_attempt 78 = .ok (.iaload, 1) := by decide +kernel
theorem dL_attempt_79 : decode cL_attempt 79 = .ok (.if_icmp .le 5, 3) := by decide +kernel
theorem dL_attempt_82 : decode cL_attempt 82 = .ok (.iconst 0, 1) := by decide +kernel
theorem dL_attempt_83 : decode cL_attempt 83 = .ok (.ireturn, 1) := by decide +kernel
theorem dL_attempt_84 : decode cL_attempt 84 = .ok (.aload_n 1, 1) := by decide +kernel
theorem dL_attempt_85 : decode cL_attempt 85 = .ok (.bipush 21, 2) := by decide +kernel
theorem dL_attempt_87 : decode cL_attempt 87 = .ok (.iload 5, 2) := by decide +kernel
theorem dL_attempt_89 : decode cL_attempt 89 = .ok (.iadd, 1) := by decide +kernel
theorem dL_attempt_90 : decode cL_attempt 90 = .ok (.iaload, 1) := by decide +kernel
theorem dL_attempt_91 : decode cL_attempt 91 = .ok (.aload 4, 2) := by decide +kernel
theorem dL_attempt_93 : decode cL_attempt 93 = .ok (.iconst 1, 1) := by decide +kernel
theorem dL_attempt_94 : decode cL_attempt 94 = .ok (.iaload, 1) := by decide +kernel
theorem dL_attempt_95 : decode cL_attempt 95 = .ok (.bipush 10, 2) := by decide +kernel
theorem dL_attempt_97 : decode cL_attempt 97 = .ok (.idiv, 1) := by decide +kernel
theorem dL_attempt_98 : decode cL_attempt 98 = .ok (.if_icmp .eq 11, 3) := by decide +kernel
theorem dL_attempt_101 : decode cL_attempt 101 = .ok (.aload_n 1, 1) := by decide +kernel
theorem dL_attempt_102 : decode cL_attempt 102 = .ok (.bipush 24, 2) := by decide +kernel
theorem dL_attempt_104 : decode cL_attempt 104 = .ok (.iload 5, 2) := by decide +kernel
theorem dL_attempt_106 : decode cL_attempt 106 = .ok (.iadd, 1) := by decide +kernel
theorem dL_attempt_107 : decode cL_attempt 107 = .ok (.iconst 0, 1) := by decide +kernel
theorem dL_attempt_108 : decode cL_attempt 108 = .ok (.iastore, 1) := by decide +kernel
theorem dL_attempt_109 : decode cL_attempt 109 = .ok (.aload_n 1, 1) := by decide +kernel
theorem dL_attempt_110 : decode cL_attempt 110 = .ok (.bipush 21, 2) := by decide +kernel
theorem dL_attempt_112 : decode cL_attempt 112 = .ok (.iload 5, 2) := by decide +kernel
theorem dL_attempt_114 : decode cL_attempt 114 = .ok (.iadd, 1) := by decide +kernel
theorem dL_attempt_115 : decode cL_attempt 115 = .ok (.aload 4, 2) := by decide +kernel
theorem dL_attempt_117 : decode cL_attempt 117 = .ok (.iconst 1, 1) := by decide +kernel
theorem dL_attempt_118 : decode cL_attempt 118 = .ok (.iaload, 1) := by decide +kernel
theorem dL_attempt_119 : decode cL_attempt 119 = .ok (.bipush 10, 2) := by decide +kernel
theorem dL_attempt_121 : decode cL_attempt 121 = .ok (.idiv, 1) := by decide +kernel
theorem dL_attempt_122 : decode cL_attempt 122 = .ok (.iastore, 1) := by decide +kernel
theorem dL_attempt_123 : decode cL_attempt 123 = .ok (.aload_n 1, 1) := by decide +kernel
theorem dL_attempt_124 : decode cL_attempt 124 = .ok (.bipush 24, 2) := by decide +kernel
theorem dL_attempt_126 : decode cL_attempt 126 = .ok (.iload 5, 2) := by decide +kernel
theorem dL_attempt_128 : decode cL_attempt 128 = .ok (.iadd, 1) := by decide +kernel
theorem dL_attempt_129 : decode cL_attempt 129 = .ok (.dup2, 1) := by decide +kernel
theorem dL_attempt_130 : decode cL_attempt 130 = .ok (.iaload, 1) := by decide +kernel
theorem dL_attempt_131 : decode cL_attempt 131 = .ok (.iconst 1, 1) := by decide +kernel
theorem dL_attempt_132 : decode cL_attempt 132 = .ok (.iadd, 1) := by decide +kernel
theorem dL_attempt_133 : decode cL_attempt 133 = .ok (.iastore, 1) := by decide +kernel
theorem dL_attempt_134 : decode cL_attempt 134 = .ok (.aload 4, 2) := by decide +kernel
theorem dL_attempt_136 : decode cL_attempt 136 = .ok (.iconst 1, 1) := by decide +kernel
theorem dL_attempt_137 : decode cL_attempt 137 = .ok (.dup2, 1) := by decide +kernel
theorem dL_attempt_138 : decode cL_attempt 138 = .ok (.iaload, 1) := by decide +kernel
theorem dL_attempt_139 : decode cL_attempt 139 = .ok (.aload_n 1, 1) := by decide +kernel
theorem dL_attempt_140 : decode cL_attempt 140 = .ok (.iload 5, 2) := by decide +kernel
theorem dL_attempt_142 : decode cL_attempt 142 = .ok (.iaload, 1) := by decide +kernel
theorem dL_attempt_143 : decode cL_attempt 143 = .ok (.iadd, 1) := by decide +kernel
theorem dL_attempt_144 : decode cL_attempt 144 = .ok (.iastore, 1) := by decide +kernel
theorem dL_attempt_145 : decode cL_attempt 145 = .ok (.aload_n 2, 1) := by decide +kernel
theorem dL_attempt_146 : decode cL_attempt 146 = .ok (.aload_n 3, 1) := by decide +kernel
theorem dL_attempt_147 : decode cL_attempt 147 = .ok (.aload_n 0, 1) := by decide +kernel
theorem dL_attempt_148 : decode cL_attempt 148 = .ok (.aload_n 1, 1) := by decide +kernel
theorem dL_attempt_149 : decode cL_attempt 149 = .ok (.aload 4, 2) := by decide +kernel
theorem dL_attempt_151 : decode cL_attempt 151 = .ok (.invokestatic 113, 3) := by decide +kernel
theorem dL_attempt_154 : decode cL_attempt 154 = .ok (.iload 6, 2) := by decide +kernel
theorem dL_attempt_156 : decode cL_attempt 156 = .ok (.ifCond .eq 38, 3) := by decide +kernel
theorem dL_attempt_159 : decode cL_attempt 159 = .ok (.aload 4, 2) := by decide +kernel
theorem dL_attempt_161 : decode cL_attempt 161 = .ok (.bipush 8, 2) := by decide +kernel
theorem dL_attempt_163 : decode cL_attempt 163 = .ok (.dup2, 1) := by decide +kernel
theorem dL_attempt_164 : decode cL_attempt 164 = .ok (.iaload, 1) := by decide +kernel
theorem dL_attempt_165 : decode cL_attempt 165 = .ok (.iconst 1, 1) := by decide +kernel
theorem dL_attempt_166 : decode cL_attempt 166 = .ok (.iadd, 1) := by decide +kernel
theorem dL_attempt_167 : decode cL_attempt 167 = .ok (.iastore, 1) := by decide +kernel
theorem dL_attempt_168 : decode cL_attempt 168 = .ok (.aload 4, 2) := by decide +kernel
theorem dL_attempt_170 : decode cL_attempt 170 = .ok (.bipush 7, 2) := by decide +kernel
theorem dL_attempt_172 : decode cL_attempt 172 = .ok (.dup2, 1) := by decide +kernel
theorem dL_attempt_173 : decode cL_attempt 173 = .ok (.iaload, 1) := by decide +kernel
theorem dL_attempt_174 : decode cL_attempt 174 = .ok (.iload 5, 2) := by decide +kernel
theorem dL_attempt_176 : decode cL_attempt 176 = .ok (.invokestatic 222, 3) := by decide +kernel
theorem dL_attempt_179 : decode cL_attempt 179 = .ok (.iadd, 1) := by decide +kernel
theorem dL_attempt_180 : decode cL_attempt 180 = .ok (.iastore, 1) := by decide +kernel
theorem dL_attempt_181 : decode cL_attempt 181 = .ok (.aload 4, 2) := by decide +kernel
theorem dL_attempt_183 : decode cL_attempt 183 = .ok (.bipush 13, 2) := by decide +kernel
theorem dL_attempt_185 : decode cL_attempt 185 = .ok (.dup2, 1) := by decide +kernel
theorem dL_attempt_186 : decode cL_attempt 186 = .ok (.iaload, 1) := by decide +kernel
theorem dL_attempt_187 : decode cL_attempt 187 = .ok (.iload 5, 2) := by decide +kernel
theorem dL_attempt_189 : decode cL_attempt 189 = .ok (.invokestatic 222, 3) := by decide +kernel
theorem dL_attempt_192 : decode cL_attempt 192 = .ok (.iadd, 1) := by decide +kernel
theorem dL_attempt_193 : decode cL_attempt 193 = .ok (.iastore, 1) := by decide +kernel
theorem dL_attempt_194 : decode cL_attempt 194 = .ok (.aload_n 1, 1) := by decide +kernel
theorem dL_attempt_195 : decode cL_attempt 195 = .ok (.bipush 15, 2) := by decide +kernel
theorem dL_attempt_197 : decode cL_attempt 197 = .ok (.iload 5, 2) := by decide +kernel
theorem dL_attempt_199 : decode cL_attempt 199 = .ok (.iadd, 1) := by decide +kernel
theorem dL_attempt_200 : decode cL_attempt 200 = .ok (.iaload, 1) := by decide +kernel
theorem dL_attempt_201 : decode cL_attempt 201 = .ok (.ifCond .ne 5, 3) := by decide +kernel
theorem dL_attempt_204 : decode cL_attempt 204 = .ok (.iconst 2, 1) := by decide +kernel
theorem dL_attempt_205 : decode cL_attempt 205 = .ok (.ireturn, 1) := by decide +kernel
theorem dL_attempt_206 : decode cL_attempt 206 = .ok (.aload_n 1, 1) := by decide +kernel
theorem dL_attempt_207 : decode cL_attempt 207 = .ok (.bipush 15, 2) := by decide +kernel
theorem dL_attempt_209 : decode cL_attempt 209 = .ok (.iload 5, 2) := by decide +kernel
theorem dL_attempt_211 : decode cL_attempt 211 = .ok (.iadd, 1) := by decide +kernel
theorem dL_attempt_212 : decode cL_attempt 212 = .ok (.dup2, 1) := by decide +kernel
theorem dL_attempt_213 : decode cL_attempt 213 = .ok (.iaload, 1) := by decide +kernel
theorem dL_attempt_214 : decode cL_attempt 214 = .ok (.iconst 1, 1) := by decide +kernel
theorem dL_attempt_215 : decode cL_attempt 215 = .ok (.isub, 1) := by decide +kernel
theorem dL_attempt_216 : decode cL_attempt 216 = .ok (.iastore, 1) := by decide +kernel
theorem dL_attempt_217 : decode cL_attempt 217 = .ok (.iconst 1, 1) := by decide +kernel
theorem dL_attempt_218 : decode cL_attempt 218 = .ok (.ireturn, 1) := by decide +kernel
theorem dL_request_0 : decode cL_request 0 = .ok (.iconst 0, 1) := by decide +kernel
theorem dL_request_1 : decode cL_request 1 = .ok (.istore 6, 2) := by decide +kernel
theorem dL_request_3 : decode cL_request 3 = .ok (.iload 6, 2) := by decide +kernel
theorem dL_request_5 : decode cL_request 5 = .ok (.iconst 3, 1) := by decide +kernel
theorem dL_request_6 : decode cL_request 6 = .ok (.if_icmp .ge 41, 3) := by decide +kernel
theorem dL_request_9 : decode cL_request 9 = .ok (.aload_n 0, 1) := by decide +kernel
theorem dL_request_10 : decode cL_request 10 = .ok (.aload_n 1, 1) := by decide +kernel
theorem dL_request_11 : decode cL_request 11 = .ok (.aload_n 2, 1) := by decide +kernel
theorem dL_request_12 : decode cL_request 12 = .ok (.aload_n 3, 1) := by decide +kernel
theorem dL_request_13 : decode cL_request 13 = .ok (.aload 4, 2) := by decide +kernel
theorem dL_request_15 : decode cL_request 15 = .ok (.iload 5, 2) := by decide +kernel
theorem dL_request_17 : decode cL_request 17 = .ok (.iconst 1, 1) := by decide +kernel
theorem dL_request_18 : decode cL_request 18 = .ok (.invokestatic 225, 3) := by decide +kernel
theorem dL_request_21 : decode cL_request 21 = .ok (.istore 7, 2) := by decide +kernel
theorem dL_request_23 : decode cL_request 23 = .ok (.iload 7, 2) := by decide +kernel
theorem dL_request_25 : decode cL_request 25 = .ok (.iconst 1, 1) := by decide +kernel
theorem dL_request_26 : decode cL_request 26 = .ok (.if_icmp .eq 15, 3) := by decide +kernel
theorem dL_request_29 : decode cL_request 29 = .ok (.iload 7, 2) := by decide +kernel
theorem dL_request_31 : decode cL_request 31 = .ok (.iconst 2, 1) := by decide +kernel
theorem dL_request_32 : decode cL_request 32 = .ok (.if_icmp .ne 7, 3) := by decide +kernel
theorem dL_request_35 : decode cL_request 35 = .ok (.iconst 1, 1) := by decide +kernel
theorem dL_request_36 : decode cL_request 36 = .ok (.goto 4, 3) := by decide +kernel
theorem dL_request_39 : decode cL_request 39 = .ok (.iconst 0, 1) := by decide +kernel
theorem dL_request_40 : decode cL_request 40 = .ok (.ireturn, 1) := by decide +kernel
theorem dL_request_41 : decode cL_request 41 = .ok (.iinc 6 1, 3) := by decide +kernel
theorem dL_request_44 : decode cL_request 44 = .ok (.goto (-41), 3) := by decide +kernel
theorem dL_request_47 : decode cL_request 47 = .ok (.iconst 0, 1) := by decide +kernel
theorem dL_request_48 : decode cL_request 48 = .ok (.ireturn, 1) := by decide +kernel
theorem dL_come_0 : decode cL_come 0 = .ok (.aload_n 3, 1) := by decide +kernel
theorem dL_come_1 : decode cL_come 1 = .ok (.bipush 6, 2) := by decide +kernel
theorem dL_come_3 : decode cL_come 3 = .ok (.iload 7, 2) := by decide +kernel
theorem dL_come_5 : decode cL_come 5 = .ok (.iadd, 1) := by decide +kernel
theorem dL_come_6 : decode cL_come 6 = .ok (.iaload, 1) := by decide +kernel
theorem dL_come_7 : decode cL_come 7 = .ok (.istore 12, 2) := by decide +kernel
theorem dL_come_9 : decode cL_come 9 = .ok (.iconst 0, 1) := by decide +kernel
theorem dL_come_10 : decode cL_come 10 = .ok (.istore 13, 2) := by decide +kernel
theorem dL_come_12 : decode cL_come 12 = .ok (.aload 6, 2) := by decide +kernel
theorem dL_come_14 : decode cL_come 14 = .ok (.bipush 14, 2) := by decide +kernel
theorem dL_come_16 : decode cL_come 16 = .ok (.iconst 0, 1) := by decide +kernel
theorem dL_come_17 : decode cL_come 17 = .ok (.iastore, 1) := by decide +kernel
theorem dL_come_18 : decode cL_come 18 = .ok (.iconst 0, 1) := by decide +kernel
theorem dL_come_19 : decode cL_come 19 = .ok (.istore 14, 2) := by decide +kernel
theorem dL_come_21 : decode cL_come 21 = .ok (.iload 14, 2) := by decide +kernel
theorem dL_come_23 : decode cL_come 23 = .ok (.aload_n 1, 1) := by decide +kernel
theorem dL_come_24 : decode cL_come 24 = .ok (.iload 12, 2) := by decide +kernel
theorem dL_come_26 : decode cL_come 26 = .ok (.iaload, 1) := by decide +kernel
theorem dL_come_27 : decode cL_come 27 = .ok (.if_icmp .ge 134, 3) := by decide +kernel
theorem dL_come_30 : decode cL_come 30 = .ok (.aload_n 0, 1) := by decide +kernel
theorem dL_come_31 : decode cL_come 31 = .ok (.bipush 10, 2) := by decide +kernel
theorem dL_come_33 : decode cL_come 33 = .ok (.iload 12, 2) := by decide +kernel
theorem dL_come_35 : decode cL_come 35 = .ok (.imul, 1) := by decide +kernel
theorem dL_come_36 : decode cL_come 36 = .ok (.iload 14, 2) := by decide +kernel
theorem dL_come_38 : decode cL_come 38 = .ok (.iadd, 1) := by decide +kernel
theorem dL_come_39 : decode cL_come 39 = .ok (.laload, 1) := by decide +kernel
theorem dL_come_40 : decode cL_come 40 = .ok (.lstore 15, 2) := by decide +kernel
theorem dL_come_42 : decode cL_come 42 = .ok (.aload_n 3, 1) := by decide +kernel
theorem dL_come_43 : decode cL_come 43 = .ok (.iload 7, 2) := by decide +kernel
theorem dL_come_45 : decode cL_come 45 = .ok (.lload 15, 2) := by decide +kernel
theorem dL_come_47 : decode cL_come 47 = .ok (.iconst 0, 1) := by decide +kernel
theorem dL_come_48 : decode cL_come 48 = .ok (.invokestatic 229, 3) := by decide +kernel
theorem dL_come_51 : decode cL_come 51 = .ok (.istore 17, 2) := by decide +kernel
theorem dL_come_53 : decode cL_come 53 = .ok (.iload 8, 2) := by decide +kernel
theorem dL_come_55 : decode cL_come 55 = .ok (.ifCond .lt 55, 3) := by decide +kernel
theorem dL_come_58 : decode cL_come 58 = .ok (.iconst 0, 1) := by decide +kernel
theorem dL_come_59 : decode cL_come 59 = .ok (.istore 18, 2) := by decide +kernel
theorem dL_come_61 : decode cL_come 61 = .ok (.iload 10, 2) := by decide +kernel
theorem dL_come_63 : decode cL_come 63 = .ok (.istore 19, 2) := by decide +kernel
theorem dL_come_65 : decode cL_come 65 = .ok (.iload 19, 2) := by decide +kernel
theorem dL_come_67 : decode cL_come 67 = .ok (.iload 11, 2) := by decide +kernel
theorem dL_come_69 : decode cL_come 69 = .ok (.if_icmp .ge 34, 3) := by decide +kernel
theorem dL_come_72 : decode cL_come 72 = .ok (.iload 18, 2) := by decide +kernel
theorem dL_come_74 : decode cL_come 74 = .ok (.aload 9, 2) := by decide +kernel
theorem dL_come_76 : decode cL_come 76 = .ok (.iload 19, 2) := by decide +kernel
theorem dL_come_78 : decode cL_come 78 = .ok (.iaload, 1) := by decide +kernel
theorem dL_come_79 : decode cL_come 79 = .ok (.lload 15, 2) := by decide +kernel
theorem dL_come_81 : decode cL_come 81 = .ok (.iload 8, 2) := by decide +kernel
theorem dL_come_83 : decode cL_come 83 = .ok (.invokestatic 169, 3) := by decide +kernel
theorem dL_come_86 : decode cL_come 86 = .ok (.if_icmp .ne 7, 3) := by decide +kernel
theorem dL_come_89 : decode cL_come 89 = .ok (.iconst 1, 1) := by decide +kernel
theorem dL_come_90 : decode cL_come 90 = .ok (.goto 4, 3) := by decide +kernel
theorem dL_come_93 : decode cL_come 93 = .ok (.iconst 0, 1) := by decide +kernel
theorem dL_come_94 : decode cL_come 94 = .ok (.ior, 1) := by decide +kernel
theorem dL_come_95 : decode cL_come 95 = .ok (.istore 18, 2) := by decide +kernel
theorem dL_come_97 : decode cL_come 97 = .ok (.iinc 19 1, 3) := by decide +kernel
theorem dL_come_100 : decode cL_come 100 = .ok (.goto (-35), 3) := by decide +kernel
theorem dL_come_103 : decode cL_come 103 = .ok (.iload 17, 2) := by decide +kernel
theorem dL_come_105 : decode cL_come 105 = .ok (.iload 18, 2) := by decide +kernel
theorem dL_come_107 : decode cL_come 107 = .ok (.iand, 1) := by decide +kernel
theorem dL_come_108 : decode cL_come 108 = .ok (.istore 17, 2) := by decide +kernel
theorem dL_come_110 : decode cL_come 110 = .ok (.iload 17, 2) := by decide +kernel
theorem dL_come_112 : decode cL_come 112 = .ok (.ifCond .ne 6, 3) := by decide +kernel
theorem dL_come_115 : decode cL_come 115 = .ok (.goto 40, 3) := by decide +kernel
theorem dL_come_118 : decode cL_come 118 = .ok (.iload 13, 2) := by decide +kernel
theorem dL_come_120 : decode cL_come 120 = .ok (.aload_n 2, 1) := by decide +kernel
theorem dL_come_121 : decode cL_come 121 = .ok (.bipush 9, 2) := by decide +kernel
theorem dL_come_123 : decode cL_come 123 = .ok (.iload 12, 2) := by decide +kernel
theorem dL_come_125 : decode cL_come 125 = .ok (.iconst 2, 1) := by decide +kernel
theorem dL_come_126 : decode cL_come 126 = .ok (.idiv, 1) := by decide +kernel
theorem dL_come_127 : decode cL_come 127 = .ok (.iadd, 1) := by decide +kernel
theorem dL_come_128 : decode cL_come 128 = .ok (.iaload, 1) := by decide +kernel
theorem dL_come_129 : decode cL_come 129 = .ok (.if_icmp .ne 12, 3) := by decide +kernel
theorem dL_come_132 : decode cL_come 132 = .ok (.aload 6, 2) := by decide +kernel
theorem dL_come_134 : decode cL_come 134 = .ok (.bipush 14, 2) := by decide +kernel
theorem dL_come_136 : decode cL_come 136 = .ok (.iconst 1, 1) := by decide +kernel
theorem dL_come_137 : decode cL_come 137 = .ok (.iastore, 1) := by decide +kernel
theorem dL_come_138 : decode cL_come 138 = .ok (.goto 23, 3) := by decide +kernel
theorem dL_come_141 : decode cL_come 141 = .ok (.aload 4, 2) := by decide +kernel
theorem dL_come_143 : decode cL_come 143 = .ok (.aload 5, 2) := by decide +kernel
theorem dL_come_145 : decode cL_come 145 = .ok (.iload 7, 2) := by decide +kernel
theorem dL_come_147 : decode cL_come 147 = .ok (.lload 15, 2) := by decide +kernel
theorem dL_come_149 : decode cL_come 149 = .ok (.invokestatic 154, 3) := by decide +kernel
theorem dL_come_152 : decode cL_come 152 = .ok (.iinc 13 1, 3) := by decide +kernel
theorem dL_come_155 : decode cL_come 155 = .ok (.iinc 14 1, 3) := by decide +kernel
theorem dL_come_158 : decode cL_come 158 = .ok (.goto (-137), 3) := by decide +kernel
theorem dL_come_161 : decode cL_come 161 = .ok (.aload 6, 2) := by decide +kernel
theorem dL_come_163 : decode cL_come 163 = .ok (.bipush 9, 2) := by decide +kernel
theorem dL_come_165 : decode cL_come 165 = .ok (.dup2, 1) := by decide +kernel
theorem dL_come_166 : decode cL_come 166 = .ok (.iaload, 1) := by decide +kernel
theorem dL_come_167 : decode cL_come 167 = .ok (.iload 13, 2) := by decide +kernel
theorem dL_come_169 : decode cL_come 169 = .ok (.iadd, 1) := by decide +kernel
theorem dL_come_170 : decode cL_come 170 = .ok (.iastore, 1) := by decide +kernel
theorem dL_come_171 : decode cL_come 171 = .ok (.aload 6, 2) := by decide +kernel
theorem dL_come_173 : decode cL_come 173 = .ok (.bipush 7, 2) := by decide +kernel
theorem dL_come_175 : decode cL_come 175 = .ok (.dup2, 1) := by decide +kernel
theorem dL_come_176 : decode cL_come 176 = .ok (.iaload, 1) := by decide +kernel
theorem dL_come_177 : decode cL_come 177 = .ok (.iload 13, 2) := by decide +kernel
theorem dL_come_179 : decode cL_come 179 = .ok (.iload 12, 2) := by decide +kernel
theorem dL_come_181 : decode cL_come 181 = .ok (.iconst 2, 1) := by decide +kernel
theorem dL_come_182 : decode cL_come 182 = .ok (.idiv, 1) := by decide +kernel
theorem dL_come_183 : decode cL_come 183 = .ok (.invokestatic 233, 3) := by decide +kernel
theorem dL_come_186 : decode cL_come 186 = .ok (.imul, 1) := by decide +kernel
theorem dL_come_187 : decode cL_come 187 = .ok (.iadd, 1) := by decide +kernel
theorem dL_come_188 : decode cL_come 188 = .ok (.iastore, 1) := by decide +kernel
theorem dL_come_189 : decode cL_come 189 = .ok (.aload 6, 2) := by decide +kernel
theorem dL_come_191 : decode cL_come 191 = .ok (.bipush 13, 2) := by decide +kernel
theorem dL_come_193 : decode cL_come 193 = .ok (.dup2, 1) := by decide +kernel
theorem dL_come_194 : decode cL_come 194 = .ok (.iaload, 1) := by decide +kernel
theorem dL_come_195 : decode cL_come 195 = .ok (.iload 13, 2) := by decide +kernel
theorem dL_come_197 : decode cL_come 197 = .ok (.iload 12, 2) := by decide +kernel
theorem dL_come_199 : decode cL_come 199 = .ok (.iconst 2, 1) := by decide +kernel
theorem dL_come_200 : decode cL_come 200 = .ok (.idiv, 1) := by decide +kernel
theorem dL_come_201 : decode cL_come 201 = .ok (.invokestatic 233, 3) := by decide +kernel
theorem dL_come_204 : decode cL_come 204 = .ok (.imul, 1) := by decide +kernel
theorem dL_come_205 : decode cL_come 205 = .ok (.iadd, 1) := by decide +kernel
theorem dL_come_206 : decode cL_come 206 = .ok (.iastore, 1) := by decide +kernel
theorem dL_come_207 : decode cL_come 207 = .ok (.return_, 1) := by decide +kernel
theorem dL_scan_0 : decode cL_scan 0 = .ok (.aload 4, 2) := by decide +kernel
theorem dL_scan_2 : decode cL_scan 2 = .ok (.bipush 6, 2) := by decide +kernel
theorem dL_scan_4 : decode cL_scan 4 = .ok (.iload 11, 2) := by decide +kernel
theorem dL_scan_6 : decode cL_scan 6 = .ok (.iadd, 1) := by decide +kernel
theorem dL_scan_7 : decode cL_scan 7 = .ok (.iaload, 1) := by decide +kernel
theorem dL_scan_8 : decode cL_scan 8 = .ok (.istore 12, 2) := by decide +kernel
theorem dL_scan_10 : decode cL_scan 10 = .ok (.aload 9, 2) := by decide +kernel
theorem dL_scan_12 : decode cL_scan 12 = .ok (.iload 11, 2) := by decide +kernel
theorem dL_scan_14 : decode cL_scan 14 = .ok (.iconst 0, 1) := by decide +kernel
theorem dL_scan_15 : decode cL_scan 15 = .ok (.iastore, 1) := by decide +kernel
theorem dL_scan_16 : decode cL_scan 16 = .ok (.aload_n 2, 1) := by decide +kernel
theorem dL_scan_17 : decode cL_scan 17 = .ok (.aload_n 3, 1) := by decide +kernel
theorem dL_scan_18 : decode cL_scan 18 = .ok (.aload 5, 2) := by decide +kernel
theorem dL_scan_20 : decode cL_scan 20 = .ok (.aload 6, 2) := by decide +kernel
theorem dL_scan_22 : decode cL_scan 22 = .ok (.aload 10, 2) := by decide +kernel
theorem dL_scan_24 : decode cL_scan 24 = .ok (.iload 12, 2) := by decide +kernel
theorem dL_scan_26 : decode cL_scan 26 = .ok (.iconst 2, 1) := by decide +kernel
theorem dL_scan_27 : decode cL_scan 27 = .ok (.idiv, 1) := by decide +kernel
theorem dL_scan_28 : decode cL_scan 28 = .ok (.invokestatic 236, 3) := by decide +kernel
theorem dL_scan_31 : decode cL_scan 31 = .ok (.ifCond .ne 5, 3) := by decide +kernel
theorem dL_scan_34 : decode cL_scan 34 = .ok (.iconst 1, 1) := by decide +kernel
theorem dL_scan_35 : decode cL_scan 35 = .ok (.ireturn, 1) := by decide +kernel
theorem dL_scan_36 : decode cL_scan 36 = .ok (.aload_n 0, 1) := by decide +kernel
theorem dL_scan_37 : decode cL_scan 37 = .ok (.aload_n 1, 1) := by decide +kernel
theorem dL_scan_38 : decode cL_scan 38 = .ok (.aload_n 3, 1) := by decide +kernel
theorem dL_scan_39 : decode cL_scan 39 = .ok (.aload 4, 2) := by decide +kernel
theorem dL_scan_41 : decode cL_scan 41 = .ok (.aload 8, 2) := by decide +kernel
theorem dL_scan_43 : decode cL_scan 43 = .ok (.aload 9, 2) := by decide +kernel
theorem dL_scan_45 : decode cL_scan 45 = .ok (.aload 10, 2) := by decide +kernel
theorem dL_scan_47 : decode cL_scan 47 = .ok (.iload 11, 2) := by decide +kernel
theorem dL_scan_49 : decode cL_scan 49 = .ok (.iconst (-1), 1) := by decide +kernel
theorem dL_scan_50 : decode cL_scan 50 = .ok (.aload 5, 2) := by decide +kernel
theorem dL_scan_52 : decode cL_scan 52 = .ok (.iconst 0, 1) := by decide +kernel
theorem dL_scan_53 : decode cL_scan 53 = .ok (.iconst 0, 1) := by decide +kernel
theorem dL_scan_54 : decode cL_scan 54 = .ok (.invokestatic 240, 3) := by decide +kernel
theorem dL_scan_57 : decode cL_scan 57 = .ok (.aload 10, 2) := by decide +kernel
theorem dL_scan_59 : decode cL_scan 59 = .ok (.bipush 14, 2) := by decide +kernel
theorem dL_scan_61 : decode cL_scan 61 = .ok (.iaload, 1) := by decide +kernel
theorem dL_scan_62 : decode cL_scan 62 = .ok (.iconst 1, 1) := by decide +kernel
theorem dL_scan_63 : decode cL_scan 63 = .ok (.if_icmp .ne 5, 3) := by decide +kernel
theorem dL_scan_66 : decode cL_scan 66 = .ok (.iconst 1, 1) := by decide +kernel
theorem dL_scan_67 : decode cL_scan 67 = .ok (.ireturn, 1) := by decide +kernel
theorem dL_scan_68 : decode cL_scan 68 = .ok (.aload 10, 2) := by decide +kernel
theorem dL_scan_70 : decode cL_scan 70 = .ok (.iconst 3, 1) := by decide +kernel
theorem dL_scan_71 : decode cL_scan 71 = .ok (.iaload, 1) := by decide +kernel
theorem dL_scan_72 : decode cL_scan 72 = .ok (.bipush 6, 2) := by decide +kernel
theorem dL_scan_74 : decode cL_scan 74 = .ok (.if_icmp .ne 69, 3) := by decide +kernel
theorem dL_scan_77 : decode cL_scan 77 = .ok (.iconst 0, 1) := by decide +kernel
theorem dL_scan_78 : decode cL_scan 78 = .ok (.istore 13, 2) := by decide +kernel
theorem dL_scan_80 : decode cL_scan 80 = .ok (.iload 13, 2) := by decide +kernel
theorem dL_scan_82 : decode cL_scan 82 = .ok (.bipush 40, 2) := by decide +kernel
theorem dL_scan_84 : decode cL_scan 84 = .ok (.if_icmp .ge 22, 3) := by decide +kernel
theorem dL_scan_87 : decode cL_scan 87 = .ok (.aload 5, 2) := by decide +kernel
theorem dL_scan_89 : decode cL_scan 89 = .ok (.iload 13, 2) := by decide +kernel
theorem dL_scan_91 : decode cL_scan 91 = .ok (.aload 5, 2) := by decide +kernel
theorem dL_scan_93 : decode cL_scan 93 = .ok (.iload 13, 2) := by decide +kernel
theorem dL_scan_95 : decode cL_scan 95 = .ok (.bipush 8, 2) := by decide +kernel
theorem dL_scan_97 : decode cL_scan 97 = .ok (.iadd, 1) := by decide +kernel
theorem dL_scan_98 : decode cL_scan 98 = .ok (.iaload, 1) := by decide +kernel
theorem dL_scan_99 : decode cL_scan 99 = .ok (.iastore, 1) := by decide +kernel
theorem dL_scan_100 : decode cL_scan 100 = .ok (.iinc 13 1, 3) := by decide +kernel
theorem dL_scan_103 : decode cL_scan 103 = .ok (.goto (-23), 3) := by decide +kernel
theorem dL_scan_106 : decode cL_scan 106 = .ok (.iconst 0, 1) := by decide +kernel
theorem dL_scan_107 : decode cL_scan 107 = .ok (.istore 13, 2) := by decide +kernel
theorem dL_scan_109 : decode cL_scan 109 = .ok (.iload 13, 2) := by decide +kernel
theorem dL_scan_111 : decode cL_scan 111 = .ok (.bipush 50, 2) := by decide +kernel
theorem dL_scan_113 : decode cL_scan 113 = .ok (.if_icmp .ge 22, 3) := by decide +kernel
theorem dL_scan_116 : decode cL_scan 116 = .ok (.aload 6, 2) := by decide +kernel
theorem dL_scan_118 : decode cL_scan 118 = .ok (.iload 13, 2) := by decide +kernel
theorem dL_scan_120 : decode cL_scan 120 = .ok (.aload 6, 2) := by decide +kernel
theorem dL_scan_122 : decode cL_scan 122 = .ok (.iload 13, 2) := by decide +kernel
theorem dL_scan_124 : decode cL_scan 124 = .ok (.bipush 10, 2) := by decide +kernel
theorem dL_scan_126 : decode cL_scan 126 = .ok (.iadd, 1) := by decide +kernel
theorem dL_scan_127 : decode cL_scan 127 = .ok (.laload, 1) := by decide +kernel
theorem dL_scan_128 : decode cL_scan 128 = .ok (.lastore, 1) := by decide +kernel
theorem dL_scan_129 : decode cL_scan 129 = .ok (.iinc 13 1, 3) := by decide +kernel
theorem dL_scan_132 : decode cL_scan 132 = .ok (.goto (-23), 3) := by decide +kernel
theorem dL_scan_135 : decode cL_scan 135 = .ok (.aload 10, 2) := by decide +kernel
theorem dL_scan_137 : decode cL_scan 137 = .ok (.iconst 3, 1) := by decide +kernel
theorem dL_scan_138 : decode cL_scan 138 = .ok (.dup2, 1) := by decide +kernel
theorem dL_scan_139 : decode cL_scan 139 = .ok (.iaload, 1) := by decide +kernel
theorem dL_scan_140 : decode cL_scan 140 = .ok (.iconst 1, 1) := by decide +kernel
theorem dL_scan_141 : decode cL_scan 141 = .ok (.isub, 1) := by decide +kernel
theorem dL_scan_142 : decode cL_scan 142 = .ok (.iastore, 1) := by decide +kernel
theorem dL_scan_143 : decode cL_scan 143 = .ok (.bipush 8, 2) := by decide +kernel
theorem dL_scan_145 : decode cL_scan 145 = .ok (.aload 10, 2) := by decide +kernel
theorem dL_scan_147 : decode cL_scan 147 = .ok (.iconst 3, 1) := by decide +kernel
theorem dL_scan_148 : decode cL_scan 148 = .ok (.iaload, 1) := by decide +kernel
theorem dL_scan_149 : decode cL_scan 149 = .ok (.imul, 1) := by decide +kernel
theorem dL_scan_150 : decode cL_scan 150 = .ok (.istore 13, 2) := by decide +kernel
theorem dL_scan_152 : decode cL_scan 152 = .ok (.aload 5, 2) := by decide +kernel
theorem dL_scan_154 : decode cL_scan 154 = .ok (.iload 13, 2) := by decide +kernel
theorem dL_scan_156 : decode cL_scan 156 = .ok (.iload 12, 2) := by decide +kernel
theorem dL_scan_158 : decode cL_scan 158 = .ok (.iastore, 1) := by decide +kernel
theorem dL_scan_159 : decode cL_scan 159 = .ok (.aload 5, 2) := by decide +kernel
theorem dL_scan_161 : decode cL_scan 161 = .ok (.iload 13, 2) := by decide +kernel
theorem dL_scan_163 : decode cL_scan 163 = .ok (.iconst 1, 1) := by decide +kernel
theorem dL_scan_164 : decode cL_scan 164 = .ok (.iadd, 1) := by decide +kernel
theorem dL_scan_165 : decode cL_scan 165 = .ok (.aload 10, 2) := by decide +kernel
theorem dL_scan_167 : decode cL_scan 167 = .ok (.iconst 1, 1) := by decide +kernel
theorem dL_scan_168 : decode cL_scan 168 = .ok (.iaload, 1) := by decide +kernel
theorem dL_scan_169 : decode cL_scan 169 = .ok (.iastore, 1) := by decide +kernel
theorem dL_scan_170 : decode cL_scan 170 = .ok (.aload 5, 2) := by decide +kernel
theorem dL_scan_172 : decode cL_scan 172 = .ok (.iload 13, 2) := by decide +kernel
theorem dL_scan_174 : decode cL_scan 174 = .ok (.iconst 2, 1) := by decide +kernel
theorem dL_scan_175 : decode cL_scan 175 = .ok (.iadd, 1) := by decide +kernel
theorem dL_scan_176 : decode cL_scan 176 = .ok (.aload 10, 2) := by decide +kernel
theorem dL_scan_178 : decode cL_scan 178 = .ok (.iconst 0, 1) := by decide +kernel
theorem dL_scan_179 : decode cL_scan 179 = .ok (.iaload, 1) := by decide +kernel
theorem dL_scan_180 : decode cL_scan 180 = .ok (.iastore, 1) := by decide +kernel
theorem dL_scan_181 : decode cL_scan 181 = .ok (.aload 5, 2) := by decide +kernel
theorem dL_scan_183 : decode cL_scan 183 = .ok (.iload 13, 2) := by decide +kernel
theorem dL_scan_185 : decode cL_scan 185 = .ok (.iconst 3, 1) := by decide +kernel
theorem dL_scan_186 : decode cL_scan 186 = .ok (.iadd, 1) := by decide +kernel
theorem dL_scan_187 : decode cL_scan 187 = .ok (.aload 9, 2) := by decide +kernel
theorem dL_scan_189 : decode cL_scan 189 = .ok (.iload 11, 2) := by decide +kernel
theorem dL_scan_191 : decode cL_scan 191 = .ok (.iaload, 1) := by decide +kernel
theorem dL_scan_192 : decode cL_scan 192 = .ok (.iastore, 1) := by decide +kernel
theorem dL_scan_193 : decode cL_scan 193 = .ok (.iconst 0, 1) := by decide +kernel
theorem dL_scan_194 : decode cL_scan 194 = .ok (.istore 14, 2) := by decide +kernel
theorem dL_scan_196 : decode cL_scan 196 = .ok (.iconst 0, 1) := by decide +kernel
theorem dL_scan_197 : decode cL_scan 197 = .ok (.istore 15, 2) := by decide +kernel
theorem dL_scan_199 : decode cL_scan 199 = .ok (.iload 15, 2) := by decide +kernel
theorem dL_scan_201 : decode cL_scan 201 = .ok (.aload 4, 2) := by decide +kernel
theorem dL_scan_203 : decode cL_scan 203 = .ok (.iconst 2, 1) := by decide +kernel
theorem dL_scan_204 : decode cL_scan 204 = .ok (.iaload, 1) := by decide +kernel
theorem dL_scan_205 : decode cL_scan 205 = .ok (.if_icmp .ge 83, 3) := by decide +kernel
theorem dL_scan_208 : decode cL_scan 208 = .ok (.aload 4, 2) := by decide +kernel
theorem dL_scan_210 : decode cL_scan 210 = .ok (.iload 15, 2) := by decide +kernel
theorem dL_scan_212 : decode cL_scan 212 = .ok (.iload 11, 2) := by decide +kernel
theorem dL_scan_214 : decode cL_scan 214 = .ok (.invokestatic 215, 3) := by decide +kernel
theorem dL_scan_217 : decode cL_scan 217 = .ok (.ifCond .ne 6, 3) := by decide +kernel
theorem dL_scan_220 : decode cL_scan 220 = .ok (.goto 62, 3) := by decide +kernel
theorem dL_scan_223 : decode cL_scan 223 = .ok (.aload 5, 2) := by decide +kernel
theorem dL_scan_225 : decode cL_scan 225 = .ok (.iload 13, 2) := by decide +kernel
theorem dL_scan_227 : decode cL_scan 227 = .ok (.iconst 4, 1) := by decide +kernel
theorem dL_scan_228 : decode cL_scan 228 = .ok (.iadd, 1) := by decide +kernel
theorem dL_scan_229 : decode cL_scan 229 = .ok (.iload 14, 2) := by decide +kernel
theorem dL_scan_231 : decode cL_scan 231 = .ok (.iadd, 1) := by decide +kernel
theorem dL_scan_232 : decode cL_scan 232 = .ok (.iconst 1, 1) := by decide +kernel
theorem dL_scan_233 : decode cL_scan 233 = .ok (.aload 4, 2) := by decide +kernel
theorem dL_scan_235 : decode cL_scan 235 = .ok (.bipush 23, 2) := by decide +kernel
theorem dL_scan_237 : decode cL_scan 237 = .ok (.iconst 4, 1) := by decide +kernel
theorem dL_scan_238 : decode cL_scan 238 = .ok (.iload 15, 2) := by decide +kernel
theorem dL_scan_240 : decode cL_scan 240 = .ok (.imul, 1) := by decide +kernel
theorem dL_scan_241 : decode cL_scan 241 = .ok (.iadd, 1) := by decide +kernel
theorem dL_scan_242 : decode cL_scan 242 = .ok (.iaload, 1) := by decide +kernel
theorem dL_scan_243 : decode cL_scan 243 = .ok (.iconst 2, 1) := by decide +kernel
theorem dL_scan_244 : decode cL_scan 244 = .ok (.imul, 1) := by decide +kernel
theorem dL_scan_245 : decode cL_scan 245 = .ok (.iadd, 1) := by decide +kernel
theorem dL_scan_246 : decode cL_scan 246 = .ok (.aload 4, 2) := by decide +kernel
theorem dL_scan_248 : decode cL_scan 248 = .ok (.bipush 22, 2) := by decide +kernel
theorem dL_scan_250 : decode cL_scan 250 = .ok (.iconst 4, 1) := by decide +kernel
theorem dL_scan_251 : decode cL_scan 251 = .ok (.iload 15, 2) := by decide +kernel
theorem dL_scan_253 : decode cL_scan 253 = .ok (.imul, 1) := by decide +kernel
theorem dL_scan_254 : decode cL_scan 254 = .ok (.iadd, 1) := by decide +kernel
theorem dL_scan_255 : decode cL_scan 255 = .ok (.iaload, 1) := by decide +kernel
theorem dL_scan_256 : decode cL_scan 256 = .ok (.bipush 16, 2) := by decide +kernel
theorem dL_scan_258 : decode cL_scan 258 = .ok (.imul, 1) := by decide +kernel
theorem dL_scan_259 : decode cL_scan 259 = .ok (.iadd, 1) := by decide +kernel
theorem dL_scan_260 : decode cL_scan 260 = .ok (.aload 4, 2) := by decide +kernel
theorem dL_scan_262 : decode cL_scan 262 = .ok (.bipush 24, 2) := by decide +kernel
theorem dL_scan_264 : decode cL_scan 264 = .ok (.iconst 4, 1) := by decide +kernel
theorem dL_scan_265 : decode cL_scan 265 = .ok (.iload 15, 2) := by decide +kernel
theorem dL_scan_267 : decode cL_scan 267 = .ok (.imul, 1) := by decide +kernel
theorem dL_scan_268 : decode cL_scan 268 = .ok (.iadd, 1) := by decide +kernel
theorem dL_scan_269 : decode cL_scan 269 = .ok (.iaload, 1) := by decide +kernel
theorem dL_scan_270 : decode cL_scan 270 = .ok (.sipush 1000, 3) := by decide +kernel
theorem dL_scan_273 : decode cL_scan 273 = .ok (.iadd, 1) := by decide +kernel
theorem dL_scan_274 : decode cL_scan 274 = .ok (.bipush 64, 2) := by decide +kernel
theorem dL_scan_276 : decode cL_scan 276 = .ok (.imul, 1) := by decide +kernel
theorem dL_scan_277 : decode cL_scan 277 = .ok (.iadd, 1) := by decide +kernel
theorem dL_scan_278 : decode cL_scan 278 = .ok (.iastore, 1) := by decide +kernel
theorem dL_scan_279 : decode cL_scan 279 = .ok (.iinc 14 1, 3) := by decide +kernel
theorem dL_scan_282 : decode cL_scan 282 = .ok (.iinc 15 1, 3) := by decide +kernel
theorem dL_scan_285 : decode cL_scan 285 = .ok (.goto (-86), 3) := by decide +kernel
theorem dL_scan_288 : decode cL_scan 288 = .ok (.iload 14, 2) := by decide +kernel
theorem dL_scan_290 : decode cL_scan 290 = .ok (.istore 15, 2) := by decide +kernel
theorem dL_scan_292 : decode cL_scan 292 = .ok (.iload 15, 2) := by decide +kernel
theorem dL_scan_294 : decode cL_scan 294 = .ok (.iconst 4, 1) := by decide +kernel
theorem dL_scan_295 : decode cL_scan 295 = .ok (.if_icmp .ge 20, 3) := by decide +kernel
theorem dL_scan_298 : decode cL_scan 298 = .ok (.aload 5, 2) := by decide +kernel
theorem dL_scan_300 : decode cL_scan 300 = .ok (.iload 13, 2) := by decide +kernel
theorem dL_scan_302 : decode cL_scan 302 = .ok (.iconst 4, 1) := by decide +kernel
theorem dL_scan_303 : decode cL_scan 303 = .ok (.iadd, 1) := by decide +kernel
theorem dL_scan_304 : decode cL_scan 304 = .ok (.iload 15, 2) := by decide +kernel
theorem dL_scan_306 : decode cL_scan 306 = .ok (.iadd, 1) := by decide +kernel
theorem dL_scan_307 : decode cL_scan 307 = .ok (.iconst 0, 1) := by decide +kernel
theorem dL_scan_308 : decode cL_scan 308 = .ok (.iastore, 1) := by decide +kernel
theorem dL_scan_309 : decode cL_scan 309 = .ok (.iinc 15 1, 3) := by decide +kernel
theorem dL_scan_312 : decode cL_scan 312 = .ok (.goto (-20), 3) := by decide +kernel
theorem dL_scan_315 : decode cL_scan 315 = .ok (.iconst 0, 1) := by decide +kernel
theorem dL_scan_316 : decode cL_scan 316 = .ok (.istore 15, 2) := by decide +kernel
theorem dL_scan_318 : decode cL_scan 318 = .ok (.iload 15, 2) := by decide +kernel
theorem dL_scan_320 : decode cL_scan 320 = .ok (.aload 9, 2) := by decide +kernel
theorem dL_scan_322 : decode cL_scan 322 = .ok (.iload 11, 2) := by decide +kernel
theorem dL_scan_324 : decode cL_scan 324 = .ok (.iaload, 1) := by decide +kernel
theorem dL_scan_325 : decode cL_scan 325 = .ok (.if_icmp .ge 33, 3) := by decide +kernel
theorem dL_scan_328 : decode cL_scan 328 = .ok (.aload 6, 2) := by decide +kernel
theorem dL_scan_330 : decode cL_scan 330 = .ok (.bipush 10, 2) := by decide +kernel
theorem dL_scan_332 : decode cL_scan 332 = .ok (.aload 10, 2) := by decide +kernel
theorem dL_scan_334 : decode cL_scan 334 = .ok (.iconst 3, 1) := by decide +kernel
theorem dL_scan_335 : decode cL_scan 335 = .ok (.iaload, 1) := by decide +kernel
theorem dL_scan_336 : decode cL_scan 336 = .ok (.imul, 1) := by decide +kernel
theorem dL_scan_337 : decode cL_scan 337 = .ok (.iload 15, 2) := by decide +kernel
theorem dL_scan_339 : decode cL_scan 339 = .ok (.iadd, 1) := by decide +kernel
theorem dL_scan_340 : decode cL_scan 340 = .ok (.aload 8, 2) := by decide +kernel
theorem dL_scan_342 : decode cL_scan 342 = .ok (.bipush 10, 2) := by decide +kernel
theorem dL_scan_344 : decode cL_scan 344 = .ok (.iload 11, 2) := by decide +kernel
theorem dL_scan_346 : decode cL_scan 346 = .ok (.imul, 1) := by decide +kernel
theorem dL_scan_347 : decode cL_scan 347 = .ok (.iload 15, 2) := by decide +kernel
theorem dL_scan_349 : decode cL_scan 349 = .ok (.iadd, 1) := by decide +kernel
theorem dL_scan_350 : decode cL_scan 350 = .ok (.laload, 1) := by decide +kernel
theorem dL_scan_351 : decode cL_scan 351 = .ok (.lastore, 1) := by decide +kernel
theorem dL_scan_352 : decode cL_scan 352 = .ok (.iinc 15 1, 3) := by decide +kernel
theorem dL_scan_355 : decode cL_scan 355 = .ok (.goto (-37), 3) := by decide +kernel
theorem dL_scan_358 : decode cL_scan 358 = .ok (.aload 10, 2) := by decide +kernel
theorem dL_scan_360 : decode cL_scan 360 = .ok (.iconst 3, 1) := by decide +kernel
theorem dL_scan_361 : decode cL_scan 361 = .ok (.dup2, 1) := by decide +kernel
theorem dL_scan_362 : decode cL_scan 362 = .ok (.iaload, 1) := by decide +kernel
theorem dL_scan_363 : decode cL_scan 363 = .ok (.iconst 1, 1) := by decide +kernel
theorem dL_scan_364 : decode cL_scan 364 = .ok (.iadd, 1) := by decide +kernel
theorem dL_scan_365 : decode cL_scan 365 = .ok (.iastore, 1) := by decide +kernel
theorem dL_scan_366 : decode cL_scan 366 = .ok (.iload 14, 2) := by decide +kernel
theorem dL_scan_368 : decode cL_scan 368 = .ok (.ifCond .ne 13, 3) := by decide +kernel
theorem dL_scan_371 : decode cL_scan 371 = .ok (.aload 7, 2) := by decide +kernel
theorem dL_scan_373 : decode cL_scan 373 = .ok (.iload 12, 2) := by decide +kernel
theorem dL_scan_375 : decode cL_scan 375 = .ok (.aload 9, 2) := by decide +kernel
theorem dL_scan_377 : decode cL_scan 377 = .ok (.iload 11, 2) := by decide +kernel
theorem dL_scan_379 : decode cL_scan 379 = .ok (.iaload, 1) := by decide +kernel
theorem dL_scan_380 : decode cL_scan 380 = .ok (.iastore, 1) := by decide +kernel
theorem dL_scan_381 : decode cL_scan 381 = .ok (.iconst 0, 1) := by decide +kernel
theorem dL_scan_382 : decode cL_scan 382 = .ok (.ireturn, 1) := by decide +kernel
theorem dL_follows_0 : decode cL_follows 0 = .ok (.iload_n 0, 1) := by decide +kernel
theorem dL_follows_1 : decode cL_follows 1 = .ok (.iconst 1, 1) := by decide +kernel
theorem dL_follows_2 : decode cL_follows 2 = .ok (.ishr, 1) := by decide +kernel
theorem dL_follows_3 : decode cL_follows 3 = .ok (.bipush 7, 2) := by decide +kernel
theorem dL_follows_5 : decode cL_follows 5 = .ok (.iand, 1) := by decide +kernel
theorem dL_follows_6 : decode cL_follows 6 = .ok (.istore 4, 2) := by decide +kernel
theorem dL_follows_8 : decode cL_follows 8 = .ok (.iload_n 0, 1) := by decide +kernel
theorem dL_follows_9 : decode cL_follows 9 = .ok (.bipush 6, 2) := by decide +kernel
theorem dL_follows_11 : decode cL_follows 11 = .ok (.ishr, 1) := by decide +kernel
theorem dL_follows_12 : decode cL_follows 12 = .ok (.sipush 1000, 3) := by decide +kernel
theorem dL_follows_15 : decode cL_follows 15 = .ok (.isub, 1) := by decide +kernel
theorem dL_follows_16 : decode cL_follows 16 = .ok (.istore 5, 2) := by decide +kernel
theorem dL_follows_18 : decode cL_follows 18 = .ok (.iload_n 0, 1) := by decide +kernel
theorem dL_follows_19 : decode cL_follows 19 = .ok (.iconst 4, 1) := by decide +kernel
theorem dL_follows_20 : decode cL_follows 20 = .ok (.ishr, 1) := by decide +kernel
theorem dL_follows_21 : decode cL_follows 21 = .ok (.iconst 3, 1) := by decide +kernel
theorem dL_follows_22 : decode cL_follows 22 = .ok (.iand, 1) := by decide +kernel
theorem dL_follows_23 : decode cL_follows 23 = .ok (.iload_n 2, 1) := by decide +kernel
theorem dL_follows_24 : decode cL_follows 24 = .ok (.if_icmp .eq 5, 3) := by decide +kernel
theorem dL_follows_27 : decode cL_follows 27 = .ok (.iconst 0, 1) := by decide +kernel
theorem dL_follows_28 : decode cL_follows 28 = .ok (.ireturn, 1) := by decide +kernel
theorem dL_follows_29 : decode cL_follows 29 = .ok (.iload 4, 2) := by decide +kernel
theorem dL_follows_31 : decode cL_follows 31 = .ok (.iload_n 1, 1) := by decide +kernel
theorem dL_follows_32 : decode cL_follows 32 = .ok (.if_icmp .ne 11, 3) := by decide +kernel
theorem dL_follows_35 : decode cL_follows 35 = .ok (.iload 5, 2) := by decide +kernel
theorem dL_follows_37 : decode cL_follows 37 = .ok (.iload_n 3, 1) := by decide +kernel
theorem dL_follows_38 : decode cL_follows 38 = .ok (.if_icmp .ne 5, 3) := by decide +kernel
theorem dL_follows_41 : decode cL_follows 41 = .ok (.iconst 1, 1) := by decide +kernel
theorem dL_follows_42 : decode cL_follows 42 = .ok (.ireturn, 1) := by decide +kernel
theorem dL_follows_43 : decode cL_follows 43 = .ok (.iload 4, 2) := by decide +kernel
theorem dL_follows_45 : decode cL_follows 45 = .ok (.iconst 1, 1) := by decide +kernel
theorem dL_follows_46 : decode cL_follows 46 = .ok (.if_icmp .ne 24, 3) := by decide +kernel
theorem dL_follows_49 : decode cL_follows 49 = .ok (.iload_n 1, 1) := by decide +kernel
theorem dL_follows_50 : decode cL_follows 50 = .ok (.iconst 1, 1) := by decide +kernel
theorem dL_follows_51 : decode cL_follows 51 = .ok (.if_icmp .ne 9, 3) := by decide +kernel
theorem dL_follows_54 : decode cL_follows 54 = .ok (.iload_n 3, 1) := by decide +kernel
theorem dL_follows_55 : decode cL_follows 55 = .ok (.iload 5, 2) := by decide +kernel
theorem dL_follows_57 : decode cL_follows 57 = .ok (.if_icmp .lt 40, 3) := by decide +kernel
theorem dL_follows_60 : decode cL_follows 60 = .ok (.iload_n 1, 1) := by decide +kernel
theorem dL_follows_61 : decode cL_follows 61 = .ok (.ifCond .ne 9, 3) := by decide +kernel
theorem dL_follows_64 : decode cL_follows 64 = .ok (.iload_n 3, 1) := by decide +kernel
theorem dL_follows_65 : decode cL_follows 65 = .ok (.iload 5, 2) := by decide +kernel
theorem dL_follows_67 : decode cL_follows 67 = .ok (.if_icmp .lt 30, 3) := by decide +kernel
theorem dL_follows_70 : decode cL_follows 70 = .ok (.iload 4, 2) := by decide +kernel
theorem dL_follows_72 : decode cL_follows 72 = .ok (.iconst 2, 1) := by decide +kernel
theorem dL_follows_73 : decode cL_follows 73 = .ok (.if_icmp .ne 28, 3) := by decide +kernel
theorem dL_follows_76 : decode cL_follows 76 = .ok (.iload_n 1, 1) := by decide +kernel
theorem dL_follows_77 : decode cL_follows 77 = .ok (.iconst 2, 1) := by decide +kernel
theorem dL_follows_78 : decode cL_follows 78 = .ok (.if_icmp .ne 9, 3) := by decide +kernel
theorem dL_follows_81 : decode cL_follows 81 = .ok (.iload_n 3, 1) := by decide +kernel
theorem dL_follows_82 : decode cL_follows 82 = .ok (.iload 5, 2) := by decide +kernel
theorem dL_follows_84 : decode cL_follows 84 = .ok (.if_icmp .gt 13, 3) := by decide +kernel
theorem dL_follows_87 : decode cL_follows 87 = .ok (.iload_n 1, 1) := by decide +kernel
theorem dL_follows_88 : decode cL_follows 88 = .ok (.ifCond .ne 13, 3) := by decide +kernel
theorem dL_follows_91 : decode cL_follows 91 = .ok (.iload_n 3, 1) := by decide +kernel
theorem dL_follows_92 : decode cL_follows 92 = .ok (.iload 5, 2) := by decide +kernel
theorem dL_follows_94 : decode cL_follows 94 = .ok (.if_icmp .le 7, 3) := by decide +kernel
theorem dL_follows_97 : decode cL_follows 97 = .ok (.iconst 1, 1) := by decide +kernel
theorem dL_follows_98 : decode cL_follows 98 = .ok (.goto 4, 3) := by decide +kernel
theorem dL_follows_101 : decode cL_follows 101 = .ok (.iconst 0, 1) := by decide +kernel
theorem dL_follows_102 : decode cL_follows 102 = .ok (.ireturn, 1) := by decide +kernel
theorem dL_entry_0 : decode cL_entry 0 = .ok (.aload_n 2, 1) := by decide +kernel
theorem dL_entry_1 : decode cL_entry 1 = .ok (.iconst 3, 1) := by decide +kernel
theorem dL_entry_2 : decode cL_entry 2 = .ok (.iaload, 1) := by decide +kernel
theorem dL_entry_3 : decode cL_entry 3 = .ok (.iconst 1, 1) := by decide +kernel
theorem dL_entry_4 : decode cL_entry 4 = .ok (.isub, 1) := by decide +kernel
theorem dL_entry_5 : decode cL_entry 5 = .ok (.istore 4, 2) := by decide +kernel
theorem dL_entry_7 : decode cL_entry 7 = .ok (.iload 4, 2) := by decide +kernel
theorem dL_entry_9 : decode cL_entry 9 = .ok (.ifCond .lt 184, 3) := by decide +kernel
theorem dL_entry_12 : decode cL_entry 12 = .ok (.aload_n 1, 1) := by decide +kernel
theorem dL_entry_13 : decode cL_entry 13 = .ok (.bipush 8, 2) := by decide +kernel
theorem dL_entry_15 : decode cL_entry 15 = .ok (.iload 4, 2) := by decide +kernel
theorem dL_entry_17 : decode cL_entry 17 = .ok (.imul, 1) := by decide +kernel
theorem dL_entry_18 : decode cL_entry 18 = .ok (.iaload, 1) := by decide +kernel
theorem dL_entry_19 : decode cL_entry 19 = .ok (.aload_n 0, 1) := by decide +kernel
theorem dL_entry_20 : decode cL_entry 20 = .ok (.bipush 6, 2) := by decide +kernel
theorem dL_entry_22 : decode cL_entry 22 = .ok (.iload_n 3, 1) := by decide +kernel
theorem dL_entry_23 : decode cL_entry 23 = .ok (.iadd, 1) := by decide +kernel
theorem dL_entry_24 : decode cL_entry 24 = .ok (.iaload, 1) := by decide +kernel
theorem dL_entry_25 : decode cL_entry 25 = .ok (.if_icmp .ne 26, 3) := by decide +kernel
theorem dL_entry_28 : decode cL_entry 28 = .ok (.aload_n 2, 1) := by decide +kernel
theorem dL_entry_29 : decode cL_entry 29 = .ok (.iconst 1, 1) := by decide +kernel
theorem dL_entry_30 : decode cL_entry 30 = .ok (.iaload, 1) := by decide +kernel
theorem dL_entry_31 : decode cL_entry 31 = .ok (.aload_n 1, 1) := by decide +kernel
theorem dL_entry_32 : decode cL_entry 32 = .ok (.bipush 8, 2) := by decide +kernel
theorem dL_entry_34 : decode cL_entry 34 = .ok (.iload 4, 2) := by decide +kernel
theorem dL_entry_36 : decode cL_entry 36 = .ok (.imul, 1) := by decide +kernel
theorem dL_entry_37 : decode cL_entry 37 = .ok (.iconst 1, 1) := by decide +kernel
theorem dL_entry_38 : decode cL_entry 38 = .ok (.iadd, 1) := by decide +kernel
theorem dL_entry_39 : decode cL_entry 39 = .ok (.iaload, 1) := by decide +kernel
theorem dL_entry_40 : decode cL_entry 40 = .ok (.isub, 1) := by decide +kernel
theorem dL_entry_41 : decode cL_entry 41 = .ok (.aload_n 2, 1) := by decide +kernel
theorem dL_entry_42 : decode cL_entry 42 = .ok (.iconst 5, 1) := by decide +kernel
theorem dL_entry_43 : decode cL_entry 43 = .ok (.iaload, 1) := by decide +kernel
theorem dL_entry_44 : decode cL_entry 44 = .ok (.if_icmp .gt 7, 3) := by decide +kernel
theorem dL_entry_47 : decode cL_entry 47 = .ok (.iconst 1, 1) := by decide +kernel
theorem dL_entry_48 : decode cL_entry 48 = .ok (.goto 4, 3) := by decide +kernel
theorem dL_entry_51 : decode cL_entry 51 = .ok (.iconst 0, 1) := by decide +kernel
theorem dL_entry_52 : decode cL_entry 52 = .ok (.istore 5, 2) := by decide +kernel
theorem dL_entry_54 : decode cL_entry 54 = .ok (.iconst 4, 1) := by decide +kernel
theorem dL_entry_55 : decode cL_entry 55 = .ok (.istore 6, 2) := by decide +kernel
theorem dL_entry_57 : decode cL_entry 57 = .ok (.iload 6, 2) := by decide +kernel
theorem dL_entry_59 : decode cL_entry 59 = .ok (.bipush 8, 2) := by decide +kernel
theorem dL_entry_61 : decode cL_entry 61 = .ok (.if_icmp .ge 118, 3) := by decide +kernel
theorem dL_entry_64 : decode cL_entry 64 = .ok (.iload 5, 2) := by decide +kernel
theorem dL_entry_66 : decode cL_entry 66 = .ok (.ifCond .eq 113, 3) := by decide +kernel
theorem dL_entry_69 : decode cL_entry 69 = .ok (.aload_n 1, 1) := by decide +kernel
theorem dL_entry_70 : decode cL_entry 70 = .ok (.bipush 8, 2) := by decide +kernel
theorem dL_entry_72 : decode cL_entry 72 = .ok (.iload 4, 2) := by decide +kernel
theorem dL_entry_74 : decode cL_entry 74 = .ok (.imul, 1) := by decide +kernel
theorem dL_entry_75 : decode cL_entry 75 = .ok (.iload 6, 2) := by decide +kernel
theorem dL_entry_77 : decode cL_entry 77 = .ok (.iadd, 1) := by decide +kernel
theorem dL_entry_78 : decode cL_entry 78 = .ok (.iaload, 1) := by decide +kernel
theorem dL_entry_79 : decode cL_entry 79 = .ok (.ifCond .ne 7, 3) := by decide +kernel
theorem dL_entry_82 : decode cL_entry 82 = .ok (.iconst 1, 1) := by decide +kernel
theorem dL_entry_83 : decode cL_entry 83 = .ok (.goto 4, 3) := by decide +kernel
theorem dL_entry_86 : decode cL_entry 86 = .ok (.iconst 0, 1) := by decide +kernel
theorem dL_entry_87 : decode cL_entry 87 = .ok (.istore 7, 2) := by decide +kernel
theorem dL_entry_89 : decode cL_entry 89 = .ok (.iconst 0, 1) := by decide +kernel
theorem dL_entry_90 : decode cL_entry 90 = .ok (.istore 8, 2) := by decide +kernel
theorem dL_entry_92 : decode cL_entry 92 = .ok (.iload 8, 2) := by decide +kernel
theorem dL_entry_94 : decode cL_entry 94 = .ok (.aload_n 0, 1) := by decide +kernel
theorem dL_entry_95 : decode cL_entry 95 = .ok (.iconst 2, 1) := by decide +kernel
theorem dL_entry_96 : decode cL_entry 96 = .ok (.iaload, 1) := by decide +kernel
theorem dL_entry_97 : decode cL_entry 97 = .ok (.if_icmp .ge 72, 3) := by decide +kernel
theorem dL_entry_100 : decode cL_entry 100 = .ok (.iload 7, 2) := by decide +kernel
theorem dL_entry_102 : decode cL_entry 102 = .ok (.aload_n 0, 1) := by decide +kernel
theorem dL_entry_103 : decode cL_entry 103 = .ok (.iload 8, 2) := by decide +kernel
theorem dL_entry_105 : decode cL_entry 105 = .ok (.iload_n 3, 1) := by decide +kernel
theorem dL_entry_106 : decode cL_entry 106 = .ok (.invokestatic 215, 3) := by decide +kernel
theorem dL_entry_109 : decode cL_entry 109 = .ok (.ifCond .eq 50, 3) := by decide +kernel
theorem dL_entry_112 : decode cL_entry 112 = .ok (.aload_n 1, 1) := by decide +kernel
theorem dL_entry_113 : decode cL_entry 113 = .ok (.bipush 8, 2) := by decide +kernel
theorem dL_entry_115 : decode cL_entry 115 = .ok (.iload 4, 2) := by decide +kernel
theorem dL_entry_117 : decode cL_entry 117 = .ok (.imul, 1) := by decide +kernel
theorem dL_entry_118 : decode cL_entry 118 = .ok (.iload 6, 2) := by decide +kernel
theorem dL_entry_120 : decode cL_entry 120 = .ok (.iadd, 1) := by decide +kernel
theorem dL_entry_121 : decode cL_entry 121 = .ok (.iaload, 1) := by decide +kernel
theorem dL_entry_122 : decode cL_entry 122 = .ok (.aload_n 0, 1) := by decide +kernel
theorem dL_entry_123 : decode cL_entry 123 = .ok (.bipush 23, 2) := by decide +kernel
theorem dL_entry_125 : decode cL_entry 125 = .ok (.iconst 4, 1) := by decide +kernel
theorem dL_entry_126 : decode cL_entry 126 = .ok (.iload 8, 2) := by decide +kernel
theorem dL_entry_128 : decode cL_entry 128 = .ok (.imul, 1) := by decide +kernel
theorem dL_entry_129 : decode cL_entry 129 = .ok (.iadd, 1) := by decide +kernel
theorem dL_entry_130 : decode cL_entry 130 = .ok (.iaload, 1) := by decide +kernel
theorem dL_entry_131 : decode cL_entry 131 = .ok (.aload_n 0, 1) := by decide +kernel
theorem dL_entry_132 : decode cL_entry 132 = .ok (.bipush 22, 2) := by decide +kernel
theorem dL_entry_134 : decode cL_entry 134 = .ok (.iconst 4, 1) := by decide +kernel
theorem dL_entry_135 : decode cL_entry 135 = .ok (.iload 8, 2) := by decide +kernel
theorem dL_entry_137 : decode cL_entry 137 = .ok (.imul, 1) := by decide +kernel
theorem dL_entry_138 : decode cL_entry 138 = .ok (.iadd, 1) := by decide +kernel
theorem dL_entry_139 : decode cL_entry 139 = .ok (.iaload, 1) := by decide +kernel
theorem dL_entry_140 : decode cL_entry 140 = .ok (.aload_n 0, 1) := by decide +kernel
theorem dL_entry_141 : decode cL_entry 141 = .ok (.bipush 24, 2) := by decide +kernel
theorem dL_entry_143 : decode cL_entry 143 = .ok (.iconst 4, 1) := by decide +kernel
theorem dL_entry_144 : decode cL_entry 144 = .ok (.iload 8, 2) := by decide +kernel
theorem dL_entry_146 : decode cL_entry 146 = .ok (.imul, 1) := by decide +kernel
theorem dL_entry_147 : decode cL_entry 147 = .ok (.iadd, 1) := by decide +kernel
theorem dL_entry_148 : decode cL_entry 148 = .ok (.iaload, 1) := by decide +kernel
theorem dL_entry_149 : decode cL_entry 149 = .ok (.invokestatic 244, 3) := by decide +kernel
theorem dL_entry_152 : decode cL_entry 152 = .ok (.ifCond .eq 7, 3) := by decide +kernel
theorem dL_entry_155 : decode cL_entry 155 = .ok (.iconst 1, 1) := by decide +kernel
theorem dL_entry_156 : decode cL_entry 156 = .ok (.goto 4, 3) := by decide +kernel
theorem dL_entry_159 : decode cL_entry 159 = .ok (.iconst 0, 1) := by decide +kernel
theorem dL_entry_160 : decode cL_entry 160 = .ok (.ior, 1) := by decide +kernel
theorem dL_entry_161 : decode cL_entry 161 = .ok (.istore 7, 2) := by decide +kernel
theorem dL_entry_163 : decode cL_entry 163 = .ok (.iinc 8 1, 3) := by decide +kernel
theorem dL_entry_166 : decode cL_entry 166 = .ok (.goto (-74), 3) := by decide +kernel
theorem dL_entry_169 : decode cL_entry 169 = .ok (.iload 7, 2) := by decide +kernel
theorem dL_entry_171 : decode cL_entry 171 = .ok (.istore 5, 2) := by decide +kernel
theorem dL_entry_173 : decode cL_entry 173 = .ok (.iinc 6 1, 3) := by decide +kernel
theorem dL_entry_176 : decode cL_entry 176 = .ok (.goto (-119), 3) := by decide +kernel
theorem dL_entry_179 : decode cL_entry 179 = .ok (.iload 5, 2) := by decide +kernel
theorem dL_entry_181 : decode cL_entry 181 = .ok (.ifCond .eq 6, 3) := by decide +kernel
theorem dL_entry_184 : decode cL_entry 184 = .ok (.iload 4, 2) := by decide +kernel
theorem dL_entry_186 : decode cL_entry 186 = .ok (.ireturn, 1) := by decide +kernel
theorem dL_entry_187 : decode cL_entry 187 = .ok (.iinc 4 (-1), 3) := by decide +kernel
theorem dL_entry_190 : decode cL_entry 190 = .ok (.goto (-183), 3) := by decide +kernel
theorem dL_entry_193 : decode cL_entry 193 = .ok (.iconst (-1), 1) := by decide +kernel
theorem dL_entry_194 : decode cL_entry 194 = .ok (.ireturn, 1) := by decide +kernel
theorem dL_linkOf_0 : decode cL_linkOf 0 = .ok (.iconst 0, 1) := by decide +kernel
theorem dL_linkOf_1 : decode cL_linkOf 1 = .ok (.istore_n 3, 1) := by decide +kernel
theorem dL_linkOf_2 : decode cL_linkOf 2 = .ok (.iload_n 3, 1) := by decide +kernel
theorem dL_linkOf_3 : decode cL_linkOf 3 = .ok (.aload_n 0, 1) := by decide +kernel
theorem dL_linkOf_4 : decode cL_linkOf 4 = .ok (.iconst 1, 1) := by decide +kernel
theorem dL_linkOf_5 : decode cL_linkOf 5 = .ok (.iaload, 1) := by decide +kernel
theorem dL_linkOf_6 : decode cL_linkOf 6 = .ok (.if_icmp .ge 61, 3) := by decide +kernel
theorem dL_linkOf_9 : decode cL_linkOf 9 = .ok (.aload_n 0, 1) := by decide +kernel
theorem dL_linkOf_10 : decode cL_linkOf 10 = .ok (.bipush 9, 2) := by decide +kernel
theorem dL_linkOf_12 : decode cL_linkOf 12 = .ok (.iconst 4, 1) := by decide +kernel
theorem dL_linkOf_13 : decode cL_linkOf 13 = .ok (.iload_n 3, 1) := by decide +kernel
theorem dL_linkOf_14 : decode cL_linkOf 14 = .ok (.imul, 1) := by decide +kernel
theorem dL_linkOf_15 : decode cL_linkOf 15 = .ok (.iadd, 1) := by decide +kernel
theorem dL_linkOf_16 : decode cL_linkOf 16 = .ok (.iaload, 1) := by decide +kernel
theorem dL_linkOf_17 : decode cL_linkOf 17 = .ok (.istore 4, 2) := by decide +kernel
theorem dL_linkOf_19 : decode cL_linkOf 19 = .ok (.aload_n 0, 1) := by decide +kernel
theorem dL_linkOf_20 : decode cL_linkOf 20 = .ok (.bipush 11, 2) := by decide +kernel
theorem dL_linkOf_22 : decode cL_linkOf 22 = .ok (.iconst 4, 1) := by decide +kernel
theorem dL_linkOf_23 : decode cL_linkOf 23 = .ok (.iload_n 3, 1) := by decide +kernel
theorem dL_linkOf_24 : decode cL_linkOf 24 = .ok (.imul, 1) := by decide +kernel
theorem dL_linkOf_25 : decode cL_linkOf 25 = .ok (.iadd, 1) := by decide +kernel
theorem dL_linkOf_26 : decode cL_linkOf 26 = .ok (.iaload, 1) := by decide +kernel
theorem dL_linkOf_27 : decode cL_linkOf 27 = .ok (.istore 5, 2) := by decide +kernel
theorem dL_linkOf_29 : decode cL_linkOf 29 = .ok (.iload 4, 2) := by decide +kernel
theorem dL_linkOf_31 : decode cL_linkOf 31 = .ok (.iload_n 2, 1) := by decide +kernel
theorem dL_linkOf_32 : decode cL_linkOf 32 = .ok (.if_icmp .ne 12, 3) := by decide +kernel
theorem dL_linkOf_35 : decode cL_linkOf 35 = .ok (.aload_n 1, 1) := by decide +kernel
theorem dL_linkOf_36 : decode cL_linkOf 36 = .ok (.iconst 4, 1) := by decide +kernel
theorem dL_linkOf_37 : decode cL_linkOf 37 = .ok (.iload 5, 2) := by decide +kernel
theorem dL_linkOf_39 : decode cL_linkOf 39 = .ok (.imul, 1) := by decide +kernel
theorem dL_linkOf_40 : decode cL_linkOf 40 = .ok (.iaload, 1) := by decide +kernel
theorem dL_linkOf_41 : decode cL_linkOf 41 = .ok (.ifCond .ge 18, 3) := by decide +kernel
theorem dL_linkOf_44 : decode cL_linkOf 44 = .ok (.iload 5, 2) := by decide +kernel
theorem dL_linkOf_46 : decode cL_linkOf 46 = .ok (.iload_n 2, 1) := by decide +kernel
theorem dL_linkOf_47 : decode cL_linkOf 47 = .ok (.if_icmp .ne 14, 3) := by decide +kernel
theorem dL_linkOf_50 : decode cL_linkOf 50 = .ok (.aload_n 1, 1) := by decide +kernel
theorem dL_linkOf_51 : decode cL_linkOf 51 = .ok (.iconst 4, 1) := by decide +kernel
theorem dL_linkOf_52 : decode cL_linkOf 52 = .ok (.iload 4, 2) := by decide +kernel
theorem dL_linkOf_54 : decode cL_linkOf 54 = .ok (.imul, 1) := by decide +kernel
theorem dL_linkOf_55 : decode cL_linkOf 55 = .ok (.iaload, 1) := by decide +kernel
theorem dL_linkOf_56 : decode cL_linkOf 56 = .ok (.ifCond .lt 5, 3) := by decide +kernel
theorem dL_linkOf_59 : decode cL_linkOf 59 = .ok (.iload_n 3, 1) := by decide +kernel
theorem dL_linkOf_60 : decode cL_linkOf 60 = .ok (.ireturn, 1) := by decide +kernel
theorem dL_linkOf_61 : decode cL_linkOf 61 = .ok (.iinc 3 1, 3) := by decide +kernel
theorem dL_linkOf_64 : decode cL_linkOf 64 = .ok (.goto (-62), 3) := by decide +kernel
theorem dL_linkOf_67 : decode cL_linkOf 67 = .ok (.iconst (-1), 1) := by decide +kernel
theorem dL_linkOf_68 : decode cL_linkOf 68 = .ok (.ireturn, 1) := by decide +kernel
theorem dL_right_0 : decode cL_right 0 = .ok (.aload_n 1, 1) := by decide +kernel
theorem dL_right_1 : decode cL_right 1 = .ok (.iconst 4, 1) := by decide +kernel
theorem dL_right_2 : decode cL_right 2 = .ok (.iload_n 3, 1) := by decide +kernel
theorem dL_right_3 : decode cL_right 3 = .ok (.imul, 1) := by decide +kernel
theorem dL_right_4 : decode cL_right 4 = .ok (.iconst 2, 1) := by decide +kernel
theorem dL_right_5 : decode cL_right 5 = .ok (.iadd, 1) := by decide +kernel
theorem dL_right_6 : decode cL_right 6 = .ok (.iconst 0, 1) := by decide +kernel
theorem dL_right_7 : decode cL_right 7 = .ok (.iastore, 1) := by decide +kernel
theorem dL_right_8 : decode cL_right 8 = .ok (.aload_n 1, 1) := by decide +kernel
theorem dL_right_9 : decode cL_right 9 = .ok (.iconst 4, 1) := by decide +kernel
theorem dL_right_10 : decode cL_right 10 = .ok (.iload_n 3, 1) := by decide +kernel
theorem dL_right_11 : decode cL_right 11 = .ok (.imul, 1) := by decide +kernel
theorem dL_right_12 : decode cL_right 12 = .ok (.iconst 3, 1) := by decide +kernel
theorem dL_right_13 : decode cL_right 13 = .ok (.iadd, 1) := by decide +kernel
theorem dL_right_14 : decode cL_right 14 = .ok (.aload_n 2, 1) := by decide +kernel
theorem dL_right_15 : decode cL_right 15 = .ok (.iconst 0, 1) := by decide +kernel
theorem dL_right_16 : decode cL_right 16 = .ok (.iaload, 1) := by decide +kernel
theorem dL_right_17 : decode cL_right 17 = .ok (.iastore, 1) := by decide +kernel
theorem dL_right_18 : decode cL_right 18 = .ok (.aload_n 2, 1) := by decide +kernel
theorem dL_right_19 : decode cL_right 19 = .ok (.iconst 0, 1) := by decide +kernel
theorem dL_right_20 : decode cL_right 20 = .ok (.iaload, 1) := by decide +kernel
theorem dL_right_21 : decode cL_right 21 = .ok (.istore 6, 2) := by decide +kernel
theorem dL_right_23 : decode cL_right 23 = .ok (.iload 6, 2) := by decide +kernel
theorem dL_right_25 : decode cL_right 25 = .ok (.ifCond .le 64, 3) := by decide +kernel
theorem dL_right_28 : decode cL_right 28 = .ok (.aload_n 0, 1) := by decide +kernel
theorem dL_right_29 : decode cL_right 29 = .ok (.iload 6, 2) := by decide +kernel
theorem dL_right_31 : decode cL_right 31 = .ok (.iaload, 1) := by decide +kernel
theorem dL_right_32 : decode cL_right 32 = .ok (.bipush 7, 2) := by decide +kernel
theorem dL_right_34 : decode cL_right 34 = .ok (.iand, 1) := by decide +kernel
theorem dL_right_35 : decode cL_right 35 = .ok (.iload 4, 2) := by decide +kernel
theorem dL_right_37 : decode cL_right 37 = .ok (.if_icmp .eq 6, 3) := by decide +kernel
theorem dL_right_40 : decode cL_right 40 = .ok (.goto 43, 3) := by decide +kernel
theorem dL_right_43 : decode cL_right 43 = .ok (.iload 6, 2) := by decide +kernel
theorem dL_right_45 : decode cL_right 45 = .ok (.iload 5, 2) := by decide +kernel
theorem dL_right_47 : decode cL_right 47 = .ok (.if_icmp .le 17, 3) := by decide +kernel
theorem dL_right_50 : decode cL_right 50 = .ok (.aload_n 1, 1) := by decide +kernel
theorem dL_right_51 : decode cL_right 51 = .ok (.iconst 4, 1) := by decide +kernel
theorem dL_right_52 : decode cL_right 52 = .ok (.iload_n 3, 1) := by decide +kernel
theorem dL_right_53 : decode cL_right 53 = .ok (.imul, 1) := by decide +kernel
theorem dL_right_54 : decode cL_right 54 = .ok (.iconst 3, 1) := by decide +kernel
theorem dL_right_55 : decode cL_right 55 = .ok (.iadd, 1) := by decide +kernel
theorem dL_right_56 : decode cL_right 56 = .ok (.iload 6, 2) := by decide +kernel
theorem dL_right_58 : decode cL_right 58 = .ok (.iconst 1, 1) := by decide +kernel
theorem dL_right_59 : decode cL_right 59 = .ok (.isub, 1) := by decide +kernel
theorem dL_right_60 : decode cL_right 60 = .ok (.iastore, 1) := by decide +kernel
theorem dL_right_61 : decode cL_right 61 = .ok (.goto 22, 3) := by decide +kernel
theorem dL_right_64 : decode cL_right 64 = .ok (.aload_n 1, 1) := by decide +kernel
theorem dL_right_65 : decode cL_right 65 = .ok (.iconst 4, 1) := by decide +kernel
theorem dL_right_66 : decode cL_right 66 = .ok (.iload_n 3, 1) := by decide +kernel
theorem dL_right_67 : decode cL_right 67 = .ok (.imul, 1) := by decide +kernel
theorem dL_right_68 : decode cL_right 68 = .ok (.iconst 2, 1) := by decide +kernel
theorem dL_right_69 : decode cL_right 69 = .ok (.iadd, 1) := by decide +kernel
theorem dL_right_70 : decode cL_right 70 = .ok (.iaload, 1) := by decide +kernel
theorem dL_right_71 : decode cL_right 71 = .ok (.ifCond .ne 12, 3) := by decide +kernel
theorem dL_right_74 : decode cL_right 74 = .ok (.aload_n 1, 1) := by decide +kernel
theorem dL_right_75 : decode cL_right 75 = .ok (.iconst 4, 1) := by decide +kernel
theorem dL_right_76 : decode cL_right 76 = .ok (.iload_n 3, 1) := by decide +kernel
theorem dL_right_77 : decode cL_right 77 = .ok (.imul, 1) := by decide +kernel
theorem dL_right_78 : decode cL_right 78 = .ok (.iconst 2, 1) := by decide +kernel
theorem dL_right_79 : decode cL_right 79 = .ok (.iadd, 1) := by decide +kernel
theorem dL_right_80 : decode cL_right 80 = .ok (.iload 6, 2) := by decide +kernel
theorem dL_right_82 : decode cL_right 82 = .ok (.iastore, 1) := by decide +kernel
theorem dL_right_83 : decode cL_right 83 = .ok (.iinc 6 (-1), 3) := by decide +kernel
theorem dL_right_86 : decode cL_right 86 = .ok (.goto (-63), 3) := by decide +kernel
theorem dL_right_89 : decode cL_right 89 = .ok (.return_, 1) := by decide +kernel
theorem dL_take_0 : decode cL_take 0 = .ok (.aload 4, 2) := by decide +kernel
theorem dL_take_2 : decode cL_take 2 = .ok (.bipush 6, 2) := by decide +kernel
theorem dL_take_4 : decode cL_take 4 = .ok (.iload 12, 2) := by decide +kernel
theorem dL_take_6 : decode cL_take 6 = .ok (.iadd, 1) := by decide +kernel
theorem dL_take_7 : decode cL_take 7 = .ok (.iaload, 1) := by decide +kernel
theorem dL_take_8 : decode cL_take 8 = .ok (.istore 13, 2) := by decide +kernel
theorem dL_take_10 : decode cL_take 10 = .ok (.iload 13, 2) := by decide +kernel
theorem dL_take_12 : decode cL_take 12 = .ok (.iconst 2, 1) := by decide +kernel
theorem dL_take_13 : decode cL_take 13 = .ok (.idiv, 1) := by decide +kernel
theorem dL_take_14 : decode cL_take 14 = .ok (.istore 14, 2) := by decide +kernel
theorem dL_take_16 : decode cL_take 16 = .ok (.aload 4, 2) := by decide +kernel
theorem dL_take_18 : decode cL_take 18 = .ok (.aload 5, 2) := by decide +kernel
theorem dL_take_20 : decode cL_take 20 = .ok (.aload 11, 2) := by decide +kernel
theorem dL_take_22 : decode cL_take 22 = .ok (.iload 12, 2) := by decide +kernel
theorem dL_take_24 : decode cL_take 24 = .ok (.invokestatic 248, 3) := by decide +kernel
theorem dL_take_27 : decode cL_take 27 = .ok (.istore 15, 2) := by decide +kernel
theorem dL_take_29 : decode cL_take 29 = .ok (.aload 11, 2) := by decide +kernel
theorem dL_take_31 : decode cL_take 31 = .ok (.bipush 13, 2) := by decide +kernel
theorem dL_take_33 : decode cL_take 33 = .ok (.iconst 0, 1) := by decide +kernel
theorem dL_take_34 : decode cL_take 34 = .ok (.iastore, 1) := by decide +kernel
theorem dL_take_35 : decode cL_take 35 = .ok (.iload 15, 2) := by decide +kernel
theorem dL_take_37 : decode cL_take 37 = .ok (.ifCond .lt 100, 3) := by decide +kernel
theorem dL_take_40 : decode cL_take 40 = .ok (.aload 9, 2) := by decide +kernel
theorem dL_take_42 : decode cL_take 42 = .ok (.iload 12, 2) := by decide +kernel
theorem dL_take_44 : decode cL_take 44 = .ok (.aload 5, 2) := by decide +kernel
theorem dL_take_46 : decode cL_take 46 = .ok (.bipush 8, 2) := by decide +kernel
theorem dL_take_48 : decode cL_take 48 = .ok (.iload 15, 2) := by decide +kernel
theorem dL_take_50 : decode cL_take 50 = .ok (.imul, 1) := by decide +kernel
theorem dL_take_51 : decode cL_take 51 = .ok (.iconst 3, 1) := by decide +kernel
theorem dL_take_52 : decode cL_take 52 = .ok (.iadd, 1) := by decide +kernel
theorem dL_take_53 : decode cL_take 53 = .ok (.iaload, 1) := by decide +kernel
theorem dL_take_54 : decode cL_take 54 = .ok (.iastore, 1) := by decide +kernel
theorem dL_take_55 : decode cL_take 55 = .ok (.iconst 0, 1) := by decide +kernel
theorem dL_take_56 : decode cL_take 56 = .ok (.istore 16, 2) := by decide +kernel
theorem dL_take_58 : decode cL_take 58 = .ok (.iload 16, 2) := by decide +kernel
theorem dL_take_60 : decode cL_take 60 = .ok (.aload 9, 2) := by decide +kernel
theorem dL_take_62 : decode cL_take 62 = .ok (.iload 12, 2) := by decide +kernel
theorem dL_take_64 : decode cL_take 64 = .ok (.iaload, 1) := by decide +kernel
theorem dL_take_65 : decode cL_take 65 = .ok (.if_icmp .ge 31, 3) := by decide +kernel
theorem dL_take_68 : decode cL_take 68 = .ok (.aload 8, 2) := by decide +kernel
theorem dL_take_70 : decode cL_take 70 = .ok (.bipush 10, 2) := by decide +kernel
theorem dL_take_72 : decode cL_take 72 = .ok (.iload 12, 2) := by decide +kernel
theorem dL_take_74 : decode cL_take 74 = .ok (.imul, 1) := by decide +kernel
theorem dL_take_75 : decode cL_take 75 = .ok (.iload 16, 2) := by decide +kernel
theorem dL_take_77 : decode cL_take 77 = .ok (.iadd, 1) := by decide +kernel
theorem dL_take_78 : decode cL_take 78 = .ok (.aload 6, 2) := by decide +kernel
theorem dL_take_80 : decode cL_take 80 = .ok (.bipush 10, 2) := by decide +kernel
theorem dL_take_82 : decode cL_take 82 = .ok (.iload 15, 2) := by decide +kernel
theorem dL_take_84 : decode cL_take 84 = .ok (.imul, 1) := by decide +kernel
theorem dL_take_85 : decode cL_take 85 = .ok (.iload 16, 2) := by decide +kernel
theorem dL_take_87 : decode cL_take 87 = .ok (.iadd, 1) := by decide +kernel
theorem dL_take_88 : decode cL_take 88 = .ok (.laload, 1) := by decide +kernel
theorem dL_take_89 : decode cL_take 89 = .ok (.lastore, 1) := by decide +kernel
theorem dL_take_90 : decode cL_take 90 = .ok (.iinc 16 1, 3) := by decide +kernel
theorem dL_take_93 : decode cL_take 93 = .ok (.goto (-35), 3) := by decide +kernel
theorem dL_take_96 : decode cL_take 96 = .ok (.aload 10, 2) := by decide +kernel
theorem dL_take_98 : decode cL_take 98 = .ok (.iconst 4, 1) := by decide +kernel
theorem dL_take_99 : decode cL_take 99 = .ok (.iload 12, 2) := by decide +kernel
theorem dL_take_101 : decode cL_take 101 = .ok (.imul, 1) := by decide +kernel
theorem dL_take_102 : decode cL_take 102 = .ok (.iconst 0, 1) := by decide +kernel
theorem dL_take_103 : decode cL_take 103 = .ok (.iastore, 1) := by decide +kernel
theorem dL_take_104 : decode cL_take 104 = .ok (.aload 10, 2) := by decide +kernel
theorem dL_take_106 : decode cL_take 106 = .ok (.iconst 4, 1) := by decide +kernel
theorem dL_take_107 : decode cL_take 107 = .ok (.iload 12, 2) := by decide +kernel
theorem dL_take_109 : decode cL_take 109 = .ok (.imul, 1) := by decide +kernel
theorem dL_take_110 : decode cL_take 110 = .ok (.iconst 1, 1) := by decide +kernel
theorem dL_take_111 : decode cL_take 111 = .ok (.iadd, 1) := by decide +kernel
theorem dL_take_112 : decode cL_take 112 = .ok (.iconst 0, 1) := by decide +kernel
theorem dL_take_113 : decode cL_take 113 = .ok (.iastore, 1) := by decide +kernel
theorem dL_take_114 : decode cL_take 114 = .ok (.aload_n 2, 1) := by decide +kernel
theorem dL_take_115 : decode cL_take 115 = .ok (.aload 10, 2) := by decide +kernel
theorem dL_take_117 : decode cL_take 117 = .ok (.aload 11, 2) := by decide +kernel
theorem dL_take_119 : decode cL_take 119 = .ok (.iload 12, 2) := by decide +kernel
theorem dL_take_121 : decode cL_take 121 = .ok (.iload 13, 2) := by decide +kernel
theorem dL_take_123 : decode cL_take 123 = .ok (.aload 5, 2) := by decide +kernel
theorem dL_take_125 : decode cL_take 125 = .ok (.bipush 8, 2) := by decide +kernel
theorem dL_take_127 : decode cL_take 127 = .ok (.iload 15, 2) := by decide +kernel
theorem dL_take_129 : decode cL_take 129 = .ok (.imul, 1) := by decide +kernel
theorem dL_take_130 : decode cL_take 130 = .ok (.iconst 2, 1) := by decide +kernel
theorem dL_take_131 : decode cL_take 131 = .ok (.iadd, 1) := by decide +kernel
theorem dL_take_132 : decode cL_take 132 = .ok (.iaload, 1) := by decide +kernel
theorem dL_take_133 : decode cL_take 133 = .ok (.invokestatic 252, 3) := by decide +kernel
theorem dL_take_136 : decode cL_take 136 = .ok (.return_, 1) := by decide +kernel
theorem dL_take_137 : decode cL_take 137 = .ok (.aload_n 2, 1) := by decide +kernel
theorem dL_take_138 : decode cL_take 138 = .ok (.aload 10, 2) := by decide +kernel
theorem dL_take_140 : decode cL_take 140 = .ok (.aload 11, 2) := by decide +kernel
theorem dL_take_142 : decode cL_take 142 = .ok (.iload 12, 2) := by decide +kernel
theorem dL_take_144 : decode cL_take 144 = .ok (.iload 13, 2) := by decide +kernel
theorem dL_take_146 : decode cL_take 146 = .ok (.aload 11, 2) := by decide +kernel
theorem dL_take_148 : decode cL_take 148 = .ok (.iconst 0, 1) := by decide +kernel
theorem dL_take_149 : decode cL_take 149 = .ok (.iaload, 1) := by decide +kernel
theorem dL_take_150 : decode cL_take 150 = .ok (.invokestatic 252, 3) := by decide +kernel
theorem dL_take_153 : decode cL_take 153 = .ok (.aload 4, 2) := by decide +kernel
theorem dL_take_155 : decode cL_take 155 = .ok (.aload 10, 2) := by decide +kernel
theorem dL_take_157 : decode cL_take 157 = .ok (.iload 12, 2) := by decide +kernel
theorem dL_take_159 : decode cL_take 159 = .ok (.invokestatic 256, 3) := by decide +kernel
theorem dL_take_162 : decode cL_take 162 = .ok (.istore 16, 2) := by decide +kernel
theorem dL_take_164 : decode cL_take 164 = .ok (.iload 14, 2) := by decide +kernel
theorem dL_take_166 : decode cL_take 166 = .ok (.invokestatic 222, 3) := by decide +kernel
theorem dL_take_169 : decode cL_take 169 = .ok (.iload 14, 2) := by decide +kernel
theorem dL_take_171 : decode cL_take 171 = .ok (.invokestatic 233, 3) := by decide +kernel
theorem dL_take_174 : decode cL_take 174 = .ok (.aload 4, 2) := by decide +kernel
theorem dL_take_176 : decode cL_take 176 = .ok (.aload 7, 2) := by decide +kernel
theorem dL_take_178 : decode cL_take 178 = .ok (.iload 12, 2) := by decide +kernel
theorem dL_take_180 : decode cL_take 180 = .ok (.invokestatic 260, 3) := by decide +kernel
theorem dL_take_183 : decode cL_take 183 = .ok (.imul, 1) := by decide +kernel
theorem dL_take_184 : decode cL_take 184 = .ok (.iadd, 1) := by decide +kernel
theorem dL_take_185 : decode cL_take 185 = .ok (.istore 17, 2) := by decide +kernel
theorem dL_take_187 : decode cL_take 187 = .ok (.iload 16, 2) := by decide +kernel
theorem dL_take_189 : decode cL_take 189 = .ok (.ifCond .lt 329, 3) := by decide +kernel
theorem dL_take_192 : decode cL_take 192 = .ok (.aload 4, 2) := by decide +kernel
theorem dL_take_194 : decode cL_take 194 = .ok (.bipush 9, 2) := by decide +kernel
theorem dL_take_196 : decode cL_take 196 = .ok (.iconst 4, 1) := by decide +kernel
theorem dL_take_197 : decode cL_take 197 = .ok (.iload 16, 2) := by decide +kernel
theorem dL_take_199 : decode cL_take 199 = .ok (.imul, 1) := by decide +kernel
theorem dL_take_200 : decode cL_take 200 = .ok (.iadd, 1) := by decide +kernel
theorem dL_take_201 : decode cL_take 201 = .ok (.iaload, 1) := by decide +kernel
theorem dL_take_202 : decode cL_take 202 = .ok (.iload 12, 2) := by decide +kernel
theorem dL_take_204 : decode cL_take 204 = .ok (.if_icmp .ne 7, 3) := by decide +kernel
theorem dL_take_207 : decode cL_take 207 = .ok (.iconst 1, 1) := by decide +kernel
theorem dL_take_208 : decode cL_take 208 = .ok (.goto 4, 3) := by decide +kernel
theorem dL_take_211 : decode cL_take 211 = .ok (.iconst 0, 1) := by decide +kernel
theorem dL_take_212 : decode cL_take 212 = .ok (.istore 18, 2) := by decide +kernel
theorem dL_take_214 : decode cL_take 214 = .ok (.iload 18, 2) := by decide +kernel
theorem dL_take_216 : decode cL_take 216 = .ok (.ifCond .eq 16, 3) := by decide +kernel
theorem dL_take_219 : decode cL_take 219 = .ok (.aload 4, 2) := by decide +kernel
theorem dL_take_221 : decode cL_take 221 = .ok (.bipush 10, 2) := by decide +kernel
theorem dL_take_223 : decode cL_take 223 = .ok (.iconst 4, 1) := by decide +kernel
theorem dL_take_224 : decode cL_take 224 = .ok (.iload 16, 2) := by decide +kernel
theorem dL_take_226 : decode cL_take 226 = .ok (.imul, 1) := by decide +kernel
theorem dL_take_227 : decode cL_take 227 = .ok (.iadd, 1) := by decide +kernel
theorem dL_take_228 : decode cL_take 228 = .ok (.iaload, 1) := by decide +kernel
theorem dL_take_229 : decode cL_take 229 = .ok (.goto 13, 3) := by decide +kernel
theorem dL_take_232 : decode cL_take 232 = .ok (.aload 4, 2) := by decide +kernel
theorem dL_take_234 : decode cL_take 234 = .ok (.bipush 12, 2) := by decide +kernel
theorem dL_take_236 : decode cL_take 236 = .ok (.iconst 4, 1) := by decide +kernel
theorem dL_take_237 : decode cL_take 237 = .ok (.iload 16, 2) := by decide +kernel
theorem dL_take_239 : decode cL_take 239 = .ok (.imul, 1) := by decide +kernel
theorem dL_take_240 : decode cL_take 240 = .ok (.iadd, 1) := by decide +kernel
theorem dL_take_241 : decode cL_take 241 = .ok (.iaload, 1) := by decide +kernel
theorem dL_take_242 : decode cL_take 242 = .ok (.istore 19, 2) := by decide +kernel
theorem dL_take_244 : decode cL_take 244 = .ok (.iload 18, 2) := by decide +kernel
theorem dL_take_246 : decode cL_take 246 = .ok (.ifCond .eq 16, 3) := by decide +kernel
theorem dL_take_249 : decode cL_take 249 = .ok (.aload 4, 2) := by decide +kernel
theorem dL_take_251 : decode cL_take 251 = .ok (.bipush 11, 2) := by decide +kernel
theorem dL_take_253 : decode cL_take 253 = .ok (.iconst 4, 1) := by decide +kernel
theorem dL_take_254 : decode cL_take 254 = .ok (.iload 16, 2) := by decide +kernel
theorem dL_take_256 : decode cL_take 256 = .ok (.imul, 1) := by decide +kernel
theorem dL_take_257 : decode cL_take 257 = .ok (.iadd, 1) := by decide +kernel
theorem dL_take_258 : decode cL_take 258 = .ok (.iaload, 1) := by decide +kernel
theorem dL_take_259 : decode cL_take 259 = .ok (.goto 13, 3) := by decide +kernel
theorem dL_take_262 : decode cL_take 262 = .ok (.aload 4, 2) := by decide +kernel
theorem dL_take_264 : decode cL_take 264 = .ok (.bipush 9, 2) := by decide +kernel
theorem dL_take_266 : decode cL_take 266 = .ok (.iconst 4, 1) := by decide +kernel
theorem dL_take_267 : decode cL_take 267 = .ok (.iload 16, 2) := by decide +kernel
theorem dL_take_269 : decode cL_take 269 = .ok (.imul, 1) := by decide +kernel
theorem dL_take_270 : decode cL_take 270 = .ok (.iadd, 1) := by decide +kernel
theorem dL_take_271 : decode cL_take 271 = .ok (.iaload, 1) := by decide +kernel
theorem dL_take_272 : decode cL_take 272 = .ok (.istore 20, 2) := by decide +kernel
theorem dL_take_274 : decode cL_take 274 = .ok (.iload 18, 2) := by decide +kernel
theorem dL_take_276 : decode cL_take 276 = .ok (.ifCond .eq 16, 3) := by decide +kernel
theorem dL_take_279 : decode cL_take 279 = .ok (.aload 4, 2) := by decide +kernel
theorem dL_take_281 : decode cL_take 281 = .ok (.bipush 12, 2) := by decide +kernel
theorem dL_take_283 : decode cL_take 283 = .ok (.iconst 4, 1) := by decide +kernel
theorem dL_take_284 : decode cL_take 284 = .ok (.iload 16, 2) := by decide +kernel
theorem dL_take_286 : decode cL_take 286 = .ok (.imul, 1) := by decide +kernel
theorem dL_take_287 : decode cL_take 287 = .ok (.iadd, 1) := by decide +kernel
theorem dL_take_288 : decode cL_take 288 = .ok (.iaload, 1) := by decide +kernel
theorem dL_take_289 : decode cL_take 289 = .ok (.goto 13, 3) := by decide +kernel
theorem dL_take_292 : decode cL_take 292 = .ok (.aload 4, 2) := by decide +kernel
theorem dL_take_294 : decode cL_take 294 = .ok (.bipush 10, 2) := by decide +kernel
theorem dL_take_296 : decode cL_take 296 = .ok (.iconst 4, 1) := by decide +kernel
theorem dL_take_297 : decode cL_take 297 = .ok (.iload 16, 2) := by decide +kernel
theorem dL_take_299 : decode cL_take 299 = .ok (.imul, 1) := by decide +kernel
theorem dL_take_300 : decode cL_take 300 = .ok (.iadd, 1) := by decide +kernel
theorem dL_take_301 : decode cL_take 301 = .ok (.iaload, 1) := by decide +kernel
theorem dL_take_302 : decode cL_take 302 = .ok (.istore 21, 2) := by decide +kernel
theorem dL_take_304 : decode cL_take 304 = .ok (.iload 14, 2) := by decide +kernel
theorem dL_take_306 : decode cL_take 306 = .ok (.iload 19, 2) := by decide +kernel
theorem dL_take_308 : decode cL_take 308 = .ok (.iconst 0, 1) := by decide +kernel
theorem dL_take_309 : decode cL_take 309 = .ok (.invokestatic 212, 3) := by decide +kernel
theorem dL_take_312 : decode cL_take 312 = .ok (.ifCond .eq 206, 3) := by decide +kernel
theorem dL_take_315 : decode cL_take 315 = .ok (.aload 7, 2) := by decide +kernel
theorem dL_take_317 : decode cL_take 317 = .ok (.bipush 8, 2) := by decide +kernel
theorem dL_take_319 : decode cL_take 319 = .ok (.aload 4, 2) := by decide +kernel
theorem dL_take_321 : decode cL_take 321 = .ok (.bipush 6, 2) := by decide +kernel
theorem dL_take_323 : decode cL_take 323 = .ok (.iload 20, 2) := by decide +kernel
theorem dL_take_325 : decode cL_take 325 = .ok (.iadd, 1) := by decide +kernel
theorem dL_take_326 : decode cL_take 326 = .ok (.iaload, 1) := by decide +kernel
theorem dL_take_327 : decode cL_take 327 = .ok (.iadd, 1) := by decide +kernel
theorem dL_take_328 : decode cL_take 328 = .ok (.iaload, 1) := by decide +kernel
theorem dL_take_329 : decode cL_take 329 = .ok (.iload 14, 2) := by decide +kernel
theorem dL_take_331 : decode cL_take 331 = .ok (.ishr, 1) := by decide +kernel
theorem dL_take_332 : decode cL_take 332 = .ok (.iconst 1, 1) := by decide +kernel
theorem dL_take_333 : decode cL_take 333 = .ok (.iand, 1) := by decide +kernel
theorem dL_take_334 : decode cL_take 334 = .ok (.ifCond .ne 184, 3) := by decide +kernel
theorem dL_take_337 : decode cL_take 337 = .ok (.bipush 10, 2) := by decide +kernel
theorem dL_take_339 : decode cL_take 339 = .ok (.newarray .int, 2) := by decide +kernel
theorem dL_take_341 : decode cL_take 341 = .ok (.astore 22, 2) := by decide +kernel
theorem dL_take_343 : decode cL_take 343 = .ok (.iconst 0, 1) := by decide +kernel
theorem dL_take_344 : decode cL_take 344 = .ok (.istore 23, 2) := by decide +kernel
theorem dL_take_346 : decode cL_take 346 = .ok (.sipush (-999), 3) := by decide +kernel
theorem dL_take_349 : decode cL_take 349 = .ok (.istore 24, 2) := by decide +kernel
theorem dL_take_351 : decode cL_take 351 = .ok (.iload 24, 2) := by decide +kernel
theorem dL_take_353 : decode cL_take 353 = .ok (.sipush 1000, 3) := by decide +kernel
theorem dL_take_356 : decode cL_take 356 = .ok (.if_icmp .ge 102, 3) := by decide +kernel
theorem dL_take_359 : decode cL_take 359 = .ok (.iconst 0, 1) := by decide +kernel
theorem dL_take_360 : decode cL_take 360 = .ok (.istore 25, 2) := by decide +kernel
theorem dL_take_362 : decode cL_take 362 = .ok (.iconst 0, 1) := by decide +kernel
theorem dL_take_363 : decode cL_take 363 = .ok (.istore 26, 2) := by decide +kernel
theorem dL_take_365 : decode cL_take 365 = .ok (.iload 26, 2) := by decide +kernel
theorem dL_take_367 : decode cL_take 367 = .ok (.aload 9, 2) := by decide +kernel
theorem dL_take_369 : decode cL_take 369 = .ok (.iload 20, 2) := by decide +kernel
theorem dL_take_371 : decode cL_take 371 = .ok (.iaload, 1) := by decide +kernel
theorem dL_take_372 : decode cL_take 372 = .ok (.if_icmp .ge 62, 3) := by decide +kernel
theorem dL_take_375 : decode cL_take 375 = .ok (.iload 25, 2) := by decide +kernel
theorem dL_take_377 : decode cL_take 377 = .ok (.aload 8, 2) := by decide +kernel
theorem dL_take_379 : decode cL_take 379 = .ok (.bipush 10, 2) := by decide +kernel
theorem dL_take_381 : decode cL_take 381 = .ok (.iload 20, 2) := by decide +kernel
theorem dL_take_383 : decode cL_take 383 = .ok (.imul, 1) := by decide +kernel
theorem dL_take_384 : decode cL_take 384 = .ok (.iload 26, 2) := by decide +kernel
theorem dL_take_386 : decode cL_take 386 = .ok (.iadd, 1) := by decide +kernel
theorem dL_take_387 : decode cL_take 387 = .ok (.laload, 1) := by decide +kernel
theorem dL_take_388 : decode cL_take 388 = .ok (.iload 21, 2) := by decide +kernel
theorem dL_take_390 : decode cL_take 390 = .ok (.invokestatic 169, 3) := by decide +kernel
theorem dL_take_393 : decode cL_take 393 = .ok (.iload 24, 2) := by decide +kernel
theorem dL_take_395 : decode cL_take 395 = .ok (.if_icmp .ne 29, 3) := by decide +kernel
theorem dL_take_398 : decode cL_take 398 = .ok (.aload 4, 2) := by decide +kernel
theorem dL_take_400 : decode cL_take 400 = .ok (.iload 20, 2) := by decide +kernel
theorem dL_take_402 : decode cL_take 402 = .ok (.aload 8, 2) := by decide +kernel
theorem dL_take_404 : decode cL_take 404 = .ok (.bipush 10, 2) := by decide +kernel
theorem dL_take_406 : decode cL_take 406 = .ok (.iload 20, 2) := by decide +kernel
theorem dL_take_408 : decode cL_take 408 = .ok (.imul, 1) := by decide +kernel
theorem dL_take_409 : decode cL_take 409 = .ok (.iload 26, 2) := by decide +kernel
theorem dL_take_411 : decode cL_take 411 = .ok (.iadd, 1) := by decide +kernel
theorem dL_take_412 : decode cL_take 412 = .ok (.laload, 1) := by decide +kernel
theorem dL_take_413 : decode cL_take 413 = .ok (.iconst 1, 1) := by decide +kernel
theorem dL_take_414 : decode cL_take 414 = .ok (.invokestatic 229, 3) := by decide +kernel
theorem dL_take_417 : decode cL_take 417 = .ok (.ifCond .eq 7, 3) := by decide +kernel
theorem dL_take_420 : decode cL_take 420 = .ok (.iconst 1, 1) := by decide +kernel
theorem dL_take_421 : decode cL_take 421 = .ok (.goto 4, 3) := by decide +kernel
theorem dL_take_424 : decode cL_take 424 = .ok (.iconst 0, 1) := by decide +kernel
theorem dL_take_425 : decode cL_take 425 = .ok (.ior, 1) := by decide +kernel
theorem dL_take_426 : decode cL_take 426 = .ok (.istore 25, 2) := by decide +kernel
theorem dL_take_428 : decode cL_take 428 = .ok (.iinc 26 1, 3) := by decide +kernel
theorem dL_take_431 : decode cL_take 431 = .ok (.goto (-66), 3) := by decide +kernel
theorem dL_take_434 : decode cL_take 434 = .ok (.iload 25, 2) := by decide +kernel
theorem dL_take_436 : decode cL_take 436 = .ok (.ifCond .ne 6, 3) := by decide +kernel
theorem dL_take_439 : decode cL_take 439 = .ok (.goto 13, 3) := by decide +kernel
theorem dL_take_442 : decode cL_take 442 = .ok (.aload 22, 2) := by decide +kernel
theorem dL_take_444 : decode cL_take 444 = .ok (.iload 23, 2) := by decide +kernel
theorem dL_take_446 : decode cL_take 446 = .ok (.iload 24, 2) := by decide +kernel
theorem dL_take_448 : decode cL_take 448 = .ok (.iastore, 1) := by decide +kernel
theorem dL_take_449 : decode cL_take 449 = .ok (.iinc 23 1, 3) := by decide +kernel
theorem dL_take_452 : decode cL_take 452 = .ok (.iinc 24 1, 3) := by decide +kernel
theorem dL_take_455 : decode cL_take 455 = .ok (.goto (-104), 3) := by decide +kernel
theorem dL_take_458 : decode cL_take 458 = .ok (.iload 23, 2) := by decide +kernel
theorem dL_take_460 : decode cL_take 460 = .ok (.iconst 3, 1) := by decide +kernel
theorem dL_take_461 : decode cL_take 461 = .ok (.iadd, 1) := by decide +kernel
theorem dL_take_462 : decode cL_take 462 = .ok (.iconst 4, 1) := by decide +kernel
theorem dL_take_463 : decode cL_take 463 = .ok (.idiv, 1) := by decide +kernel
theorem dL_take_464 : decode cL_take 464 = .ok (.iload 14, 2) := by decide +kernel
theorem dL_take_466 : decode cL_take 466 = .ok (.invokestatic 222, 3) := by decide +kernel
theorem dL_take_469 : decode cL_take 469 = .ok (.imul, 1) := by decide +kernel
theorem dL_take_470 : decode cL_take 470 = .ok (.iload 23, 2) := by decide +kernel
theorem dL_take_472 : decode cL_take 472 = .ok (.iload 14, 2) := by decide +kernel
theorem dL_take_474 : decode cL_take 474 = .ok (.invokestatic 233, 3) := by decide +kernel
theorem dL_take_477 : decode cL_take 477 = .ok (.imul, 1) := by decide +kernel
theorem dL_take_478 : decode cL_take 478 = .ok (.iadd, 1) := by decide +kernel
theorem dL_take_479 : decode cL_take 479 = .ok (.iload 17, 2) := by decide +kernel
theorem dL_take_481 : decode cL_take 481 = .ok (.if_icmp .ge 37, 3) := by decide +kernel
theorem dL_take_484 : decode cL_take 484 = .ok (.aload_n 0, 1) := by decide +kernel
theorem dL_take_485 : decode cL_take 485 = .ok (.aload_n 1, 1) := by decide +kernel
theorem dL_take_486 : decode cL_take 486 = .ok (.aload_n 2, 1) := by decide +kernel
theorem dL_take_487 : decode cL_take 487 = .ok (.aload_n 3, 1) := by decide +kernel
theorem dL_take_488 : decode cL_take 488 = .ok (.aload 4, 2) := by decide +kernel
theorem dL_take_490 : decode cL_take 490 = .ok (.aload 5, 2) := by decide +kernel
theorem dL_take_492 : decode cL_take 492 = .ok (.aload 6, 2) := by decide +kernel
theorem dL_take_494 : decode cL_take 494 = .ok (.aload 7, 2) := by decide +kernel
theorem dL_take_496 : decode cL_take 496 = .ok (.aload 8, 2) := by decide +kernel
theorem dL_take_498 : decode cL_take 498 = .ok (.aload 9, 2) := by decide +kernel
theorem dL_take_500 : decode cL_take 500 = .ok (.aload 10, 2) := by decide +kernel
theorem dL_take_502 : decode cL_take 502 = .ok (.aload 11, 2) := by decide +kernel
theorem dL_take_504 : decode cL_take 504 = .ok (.aload 22, 2) := by decide +kernel
theorem dL_take_506 : decode cL_take 506 = .ok (.iload 23, 2) := by decide +kernel
theorem dL_take_508 : decode cL_take 508 = .ok (.iload 12, 2) := by decide +kernel
theorem dL_take_510 : decode cL_take 510 = .ok (.iload 19, 2) := by decide +kernel
theorem dL_take_512 : decode cL_take 512 = .ok (.iload 17, 2) := by decide +kernel
theorem dL_take_514 : decode cL_take 514 = .ok (.invokestatic 263, 3) := by decide +kernel
theorem dL_take_517 : decode cL_take 517 = .ok (.return_, 1) := by decide +kernel
theorem dL_take_518 : decode cL_take 518 = .ok (.aload 10, 2) := by decide +kernel
theorem dL_take_520 : decode cL_take 520 = .ok (.iconst 4, 1) := by decide +kernel
theorem dL_take_521 : decode cL_take 521 = .ok (.iload 12, 2) := by decide +kernel
theorem dL_take_523 : decode cL_take 523 = .ok (.imul, 1) := by decide +kernel
theorem dL_take_524 : decode cL_take 524 = .ok (.iconst 3, 1) := by decide +kernel
theorem dL_take_525 : decode cL_take 525 = .ok (.iastore, 1) := by decide +kernel
theorem dL_take_526 : decode cL_take 526 = .ok (.aload 10, 2) := by decide +kernel
theorem dL_take_528 : decode cL_take 528 = .ok (.iconst 4, 1) := by decide +kernel
theorem dL_take_529 : decode cL_take 529 = .ok (.iload 12, 2) := by decide +kernel
theorem dL_take_531 : decode cL_take 531 = .ok (.imul, 1) := by decide +kernel
theorem dL_take_532 : decode cL_take 532 = .ok (.iconst 1, 1) := by decide +kernel
theorem dL_take_533 : decode cL_take 533 = .ok (.iadd, 1) := by decide +kernel
theorem dL_take_534 : decode cL_take 534 = .ok (.aload_n 0, 1) := by decide +kernel
theorem dL_take_535 : decode cL_take 535 = .ok (.aload_n 1, 1) := by decide +kernel
theorem dL_take_536 : decode cL_take 536 = .ok (.aload_n 2, 1) := by decide +kernel
theorem dL_take_537 : decode cL_take 537 = .ok (.aload_n 3, 1) := by decide +kernel
theorem dL_take_538 : decode cL_take 538 = .ok (.aload 4, 2) := by decide +kernel
theorem dL_take_540 : decode cL_take 540 = .ok (.aload 5, 2) := by decide +kernel
theorem dL_take_542 : decode cL_take 542 = .ok (.aload 6, 2) := by decide +kernel
theorem dL_take_544 : decode cL_take 544 = .ok (.aload 7, 2) := by decide +kernel
theorem dL_take_546 : decode cL_take 546 = .ok (.aload 8, 2) := by decide +kernel
theorem dL_take_548 : decode cL_take 548 = .ok (.aload 9, 2) := by decide +kernel
theorem dL_take_550 : decode cL_take 550 = .ok (.aload 11, 2) := by decide +kernel
theorem dL_take_552 : decode cL_take 552 = .ok (.iload 12, 2) := by decide +kernel
theorem dL_take_554 : decode cL_take 554 = .ok (.invokestatic 267, 3) := by decide +kernel
theorem dL_take_557 : decode cL_take 557 = .ok (.ifCond .eq 7, 3) := by decide +kernel
theorem dL_take_560 : decode cL_take 560 = .ok (.iconst 1, 1) := by decide +kernel
theorem dL_take_561 : decode cL_take 561 = .ok (.goto 4, 3) := by decide +kernel
theorem dL_take_564 : decode cL_take 564 = .ok (.iconst 0, 1) := by decide +kernel
theorem dL_take_565 : decode cL_take 565 = .ok (.iastore, 1) := by decide +kernel
theorem dL_take_566 : decode cL_take 566 = .ok (.return_, 1) := by decide +kernel
theorem dL_bind_0 : decode cL_bind 0 = .ok (.aload 9, 2) := by decide +kernel
theorem dL_bind_2 : decode cL_bind 2 = .ok (.iload 14, 2) := by decide +kernel
theorem dL_bind_4 : decode cL_bind 4 = .ok (.iconst 0, 1) := by decide +kernel
theorem dL_bind_5 : decode cL_bind 5 = .ok (.iastore, 1) := by decide +kernel
theorem dL_bind_6 : decode cL_bind 6 = .ok (.aload 10, 2) := by decide +kernel
theorem dL_bind_8 : decode cL_bind 8 = .ok (.iconst 4, 1) := by decide +kernel
theorem dL_bind_9 : decode cL_bind 9 = .ok (.iload 14, 2) := by decide +kernel
theorem dL_bind_11 : decode cL_bind 11 = .ok (.imul, 1) := by decide +kernel
theorem dL_bind_12 : decode cL_bind 12 = .ok (.iconst 1, 1) := by decide +kernel
theorem dL_bind_13 : decode cL_bind 13 = .ok (.iastore, 1) := by decide +kernel
theorem dL_bind_14 : decode cL_bind 14 = .ok (.aload 10, 2) := by decide +kernel
theorem dL_bind_16 : decode cL_bind 16 = .ok (.iconst 4, 1) := by decide +kernel
theorem dL_bind_17 : decode cL_bind 17 = .ok (.iload 14, 2) := by decide +kernel
theorem dL_bind_19 : decode cL_bind 19 = .ok (.imul, 1) := by decide +kernel
theorem dL_bind_20 : decode cL_bind 20 = .ok (.iconst 1, 1) := by decide +kernel
theorem dL_bind_21 : decode cL_bind 21 = .ok (.iadd, 1) := by decide +kernel
theorem dL_bind_22 : decode cL_bind 22 = .ok (.iconst 0, 1) := by decide +kernel
theorem dL_bind_23 : decode cL_bind 23 = .ok (.iastore, 1) := by decide +kernel
theorem dL_bind_24 : decode cL_bind 24 = .ok (.iconst 0, 1) := by decide +kernel
theorem dL_bind_25 : decode cL_bind 25 = .ok (.istore 17, 2) := by decide +kernel
theorem dL_bind_27 : decode cL_bind 27 = .ok (.iload 17, 2) := by decide +kernel
theorem dL_bind_29 : decode cL_bind 29 = .ok (.iload 13, 2) := by decide +kernel
theorem dL_bind_31 : decode cL_bind 31 = .ok (.if_icmp .ge 172, 3) := by decide +kernel
theorem dL_bind_34 : decode cL_bind 34 = .ok (.aload_n 2, 1) := by decide +kernel
theorem dL_bind_35 : decode cL_bind 35 = .ok (.aload_n 3, 1) := by decide +kernel
theorem dL_bind_36 : decode cL_bind 36 = .ok (.aload 5, 2) := by decide +kernel
theorem dL_bind_38 : decode cL_bind 38 = .ok (.aload 6, 2) := by decide +kernel
theorem dL_bind_40 : decode cL_bind 40 = .ok (.aload 11, 2) := by decide +kernel
theorem dL_bind_42 : decode cL_bind 42 = .ok (.aload 4, 2) := by decide +kernel
theorem dL_bind_44 : decode cL_bind 44 = .ok (.bipush 6, 2) := by decide +kernel
theorem dL_bind_46 : decode cL_bind 46 = .ok (.iload 14, 2) := by decide +kernel
theorem dL_bind_48 : decode cL_bind 48 = .ok (.iadd, 1) := by decide +kernel
theorem dL_bind_49 : decode cL_bind 49 = .ok (.iaload, 1) := by decide +kernel
theorem dL_bind_50 : decode cL_bind 50 = .ok (.iconst 2, 1) := by decide +kernel
theorem dL_bind_51 : decode cL_bind 51 = .ok (.idiv, 1) := by decide +kernel
theorem dL_bind_52 : decode cL_bind 52 = .ok (.invokestatic 236, 3) := by decide +kernel
theorem dL_bind_55 : decode cL_bind 55 = .ok (.ifCond .ne 14, 3) := by decide +kernel
theorem dL_bind_58 : decode cL_bind 58 = .ok (.aload 10, 2) := by decide +kernel
theorem dL_bind_60 : decode cL_bind 60 = .ok (.iconst 4, 1) := by decide +kernel
theorem dL_bind_61 : decode cL_bind 61 = .ok (.iload 14, 2) := by decide +kernel
theorem dL_bind_63 : decode cL_bind 63 = .ok (.imul, 1) := by decide +kernel
theorem dL_bind_64 : decode cL_bind 64 = .ok (.iconst 1, 1) := by decide +kernel
theorem dL_bind_65 : decode cL_bind 65 = .ok (.iadd, 1) := by decide +kernel
theorem dL_bind_66 : decode cL_bind 66 = .ok (.iconst 1, 1) := by decide +kernel
theorem dL_bind_67 : decode cL_bind 67 = .ok (.iastore, 1) := by decide +kernel
theorem dL_bind_68 : decode cL_bind 68 = .ok (.return_, 1) := by decide +kernel
theorem dL_bind_69 : decode cL_bind 69 = .ok (.aload_n 0, 1) := by decide +kernel
theorem dL_bind_70 : decode cL_bind 70 = .ok (.aload_n 1, 1) := by decide +kernel
theorem dL_bind_71 : decode cL_bind 71 = .ok (.aload_n 3, 1) := by decide +kernel
theorem dL_bind_72 : decode cL_bind 72 = .ok (.aload 4, 2) := by decide +kernel
theorem dL_bind_74 : decode cL_bind 74 = .ok (.aload 8, 2) := by decide +kernel
theorem dL_bind_76 : decode cL_bind 76 = .ok (.aload 9, 2) := by decide +kernel
theorem dL_bind_78 : decode cL_bind 78 = .ok (.aload 11, 2) := by decide +kernel
theorem dL_bind_80 : decode cL_bind 80 = .ok (.iload 14, 2) := by decide +kernel
theorem dL_bind_82 : decode cL_bind 82 = .ok (.iload 15, 2) := by decide +kernel
theorem dL_bind_84 : decode cL_bind 84 = .ok (.aload 12, 2) := by decide +kernel
theorem dL_bind_86 : decode cL_bind 86 = .ok (.iload 17, 2) := by decide +kernel
theorem dL_bind_88 : decode cL_bind 88 = .ok (.iload 17, 2) := by decide +kernel
theorem dL_bind_90 : decode cL_bind 90 = .ok (.iconst 4, 1) := by decide +kernel
theorem dL_bind_91 : decode cL_bind 91 = .ok (.iadd, 1) := by decide +kernel
theorem dL_bind_92 : decode cL_bind 92 = .ok (.iload 13, 2) := by decide +kernel
theorem dL_bind_94 : decode cL_bind 94 = .ok (.if_icmp .ge 10, 3) := by decide +kernel
theorem dL_bind_97 : decode cL_bind 97 = .ok (.iload 17, 2) := by decide +kernel
theorem dL_bind_99 : decode cL_bind 99 = .ok (.iconst 4, 1) := by decide +kernel
theorem dL_bind_100 : decode cL_bind 100 = .ok (.iadd, 1) := by decide +kernel
theorem dL_bind_101 : decode cL_bind 101 = .ok (.goto 5, 3) := by decide +kernel
theorem dL_bind_104 : decode cL_bind 104 = .ok (.iload 13, 2) := by decide +kernel
theorem dL_bind_106 : decode cL_bind 106 = .ok (.invokestatic 240, 3) := by decide +kernel
theorem dL_bind_109 : decode cL_bind 109 = .ok (.aload 10, 2) := by decide +kernel
theorem dL_bind_111 : decode cL_bind 111 = .ok (.iconst 4, 1) := by decide +kernel
theorem dL_bind_112 : decode cL_bind 112 = .ok (.iload 14, 2) := by decide +kernel
theorem dL_bind_114 : decode cL_bind 114 = .ok (.imul, 1) := by decide +kernel
theorem dL_bind_115 : decode cL_bind 115 = .ok (.iconst 1, 1) := by decide +kernel
theorem dL_bind_116 : decode cL_bind 116 = .ok (.iadd, 1) := by decide +kernel
theorem dL_bind_117 : decode cL_bind 117 = .ok (.dup2, 1) := by decide +kernel
theorem dL_bind_118 : decode cL_bind 118 = .ok (.iaload, 1) := by decide +kernel
theorem dL_bind_119 : decode cL_bind 119 = .ok (.aload 11, 2) := by decide +kernel
theorem dL_bind_121 : decode cL_bind 121 = .ok (.bipush 14, 2) := by decide +kernel
theorem dL_bind_123 : decode cL_bind 123 = .ok (.iaload, 1) := by decide +kernel
theorem dL_bind_124 : decode cL_bind 124 = .ok (.ior, 1) := by decide +kernel
theorem dL_bind_125 : decode cL_bind 125 = .ok (.iastore, 1) := by decide +kernel
theorem dL_bind_126 : decode cL_bind 126 = .ok (.iload 17, 2) := by decide +kernel
theorem dL_bind_128 : decode cL_bind 128 = .ok (.iconst 4, 1) := by decide +kernel
theorem dL_bind_129 : decode cL_bind 129 = .ok (.iadd, 1) := by decide +kernel
theorem dL_bind_130 : decode cL_bind 130 = .ok (.iload 13, 2) := by decide +kernel
theorem dL_bind_132 : decode cL_bind 132 = .ok (.if_icmp .ge 65, 3) := by decide +kernel
theorem dL_bind_135 : decode cL_bind 135 = .ok (.aload 11, 2) := by decide +kernel
theorem dL_bind_137 : decode cL_bind 137 = .ok (.bipush 13, 2) := by decide +kernel
theorem dL_bind_139 : decode cL_bind 139 = .ok (.iaload, 1) := by decide +kernel
theorem dL_bind_140 : decode cL_bind 140 = .ok (.iload 16, 2) := by decide +kernel
theorem dL_bind_142 : decode cL_bind 142 = .ok (.if_icmp .ge 6, 3) := by decide +kernel
theorem dL_bind_145 : decode cL_bind 145 = .ok (.goto 52, 3) := by decide +kernel
theorem dL_bind_148 : decode cL_bind 148 = .ok (.aload 10, 2) := by decide +kernel
theorem dL_bind_150 : decode cL_bind 150 = .ok (.iconst 4, 1) := by decide +kernel
theorem dL_bind_151 : decode cL_bind 151 = .ok (.iload 14, 2) := by decide +kernel
theorem dL_bind_153 : decode cL_bind 153 = .ok (.imul, 1) := by decide +kernel
theorem dL_bind_154 : decode cL_bind 154 = .ok (.iconst 2, 1) := by decide +kernel
theorem dL_bind_155 : decode cL_bind 155 = .ok (.iastore, 1) := by decide +kernel
theorem dL_bind_156 : decode cL_bind 156 = .ok (.aload 10, 2) := by decide +kernel
theorem dL_bind_158 : decode cL_bind 158 = .ok (.iconst 4, 1) := by decide +kernel
theorem dL_bind_159 : decode cL_bind 159 = .ok (.iload 14, 2) := by decide +kernel
theorem dL_bind_161 : decode cL_bind 161 = .ok (.imul, 1) := by decide +kernel
theorem dL_bind_162 : decode cL_bind 162 = .ok (.iconst 1, 1) := by decide +kernel
theorem dL_bind_163 : decode cL_bind 163 = .ok (.iadd, 1) := by decide +kernel
theorem dL_bind_164 : decode cL_bind 164 = .ok (.aload_n 0, 1) := by decide +kernel
theorem dL_bind_165 : decode cL_bind 165 = .ok (.aload_n 1, 1) := by decide +kernel
theorem dL_bind_166 : decode cL_bind 166 = .ok (.aload_n 2, 1) := by decide +kernel
theorem dL_bind_167 : decode cL_bind 167 = .ok (.aload_n 3, 1) := by decide +kernel
theorem dL_bind_168 : decode cL_bind 168 = .ok (.aload 4, 2) := by decide +kernel
theorem dL_bind_170 : decode cL_bind 170 = .ok (.aload 5, 2) := by decide +kernel
theorem dL_bind_172 : decode cL_bind 172 = .ok (.aload 6, 2) := by decide +kernel
theorem dL_bind_174 : decode cL_bind 174 = .ok (.aload 7, 2) := by decide +kernel
theorem dL_bind_176 : decode cL_bind 176 = .ok (.aload 8, 2) := by decide +kernel
theorem dL_bind_178 : decode cL_bind 178 = .ok (.aload 9, 2) := by decide +kernel
theorem dL_bind_180 : decode cL_bind 180 = .ok (.aload 11, 2) := by decide +kernel
theorem dL_bind_182 : decode cL_bind 182 = .ok (.iload 14, 2) := by decide +kernel
theorem dL_bind_184 : decode cL_bind 184 = .ok (.invokestatic 267, 3) := by decide +kernel
theorem dL_bind_187 : decode cL_bind 187 = .ok (.ifCond .eq 7, 3) := by decide +kernel
theorem dL_bind_190 : decode cL_bind 190 = .ok (.iconst 1, 1) := by decide +kernel
theorem dL_bind_191 : decode cL_bind 191 = .ok (.goto 4, 3) := by decide +kernel
theorem dL_bind_194 : decode cL_bind 194 = .ok (.iconst 0, 1) := by decide +kernel
theorem dL_bind_195 : decode cL_bind 195 = .ok (.iastore, 1) := by decide +kernel
theorem dL_bind_196 : decode cL_bind 196 = .ok (.return_, 1) := by decide +kernel
theorem dL_bind_197 : decode cL_bind 197 = .ok (.iinc 17 4, 3) := by decide +kernel
theorem dL_bind_200 : decode cL_bind 200 = .ok (.goto (-173), 3) := by decide +kernel
theorem dL_bind_203 : decode cL_bind 203 = .ok (.return_, 1) := by decide +kernel
theorem dL_match_0 : decode cL_match 0 = .ok (.iconst 0, 1) := by decide +kernel
theorem dL_match_1 : decode cL_match 1 = .ok (.istore 4, 2) := by decide +kernel
theorem dL_match_3 : decode cL_match 3 = .ok (.iconst 0, 1) := by decide +kernel
theorem dL_match_4 : decode cL_match 4 = .ok (.istore 5, 2) := by decide +kernel
theorem dL_match_6 : decode cL_match 6 = .ok (.iload 5, 2) := by decide +kernel
theorem dL_match_8 : decode cL_match 8 = .ok (.bipush 60, 2) := by decide +kernel
theorem dL_match_10 : decode cL_match 10 = .ok (.if_icmp .ge 14, 3) := by decide +kernel
theorem dL_match_13 : decode cL_match 13 = .ok (.aload_n 3, 1) := by decide +kernel
theorem dL_match_14 : decode cL_match 14 = .ok (.iload 5, 2) := by decide +kernel
theorem dL_match_16 : decode cL_match 16 = .ok (.iconst 0, 1) := by decide +kernel
theorem dL_match_17 : decode cL_match 17 = .ok (.iastore, 1) := by decide +kernel
theorem dL_match_18 : decode cL_match 18 = .ok (.iinc 5 1, 3) := by decide +kernel
theorem dL_match_21 : decode cL_match 21 = .ok (.goto (-15), 3) := by decide +kernel
theorem dL_match_24 : decode cL_match 24 = .ok (.iconst 0, 1) := by decide +kernel
theorem dL_match_25 : decode cL_match 25 = .ok (.istore 5, 2) := by decide +kernel
theorem dL_match_27 : decode cL_match 27 = .ok (.iload 5, 2) := by decide +kernel
theorem dL_match_29 : decode cL_match 29 = .ok (.aload_n 2, 1) := by decide +kernel
theorem dL_match_30 : decode cL_match 30 = .ok (.iconst 0, 1) := by decide +kernel
theorem dL_match_31 : decode cL_match 31 = .ok (.iaload, 1) := by decide +kernel
theorem dL_match_32 : decode cL_match 32 = .ok (.if_icmp .ge 223, 3) := by decide +kernel
theorem dL_match_35 : decode cL_match 35 = .ok (.aload_n 0, 1) := by decide +kernel
theorem dL_match_36 : decode cL_match 36 = .ok (.iconst 0, 1) := by decide +kernel
theorem dL_match_37 : decode cL_match 37 = .ok (.aload_n 1, 1) := by decide +kernel
theorem dL_match_38 : decode cL_match 38 = .ok (.iload 5, 2) := by decide +kernel
theorem dL_match_40 : decode cL_match 40 = .ok (.laload, 1) := by decide +kernel
theorem dL_match_41 : decode cL_match 41 = .ok (.iconst 1, 1) := by decide +kernel
theorem dL_match_42 : decode cL_match 42 = .ok (.invokestatic 229, 3) := by decide +kernel
theorem dL_match_45 : decode cL_match 45 = .ok (.ifCond .ne 6, 3) := by decide +kernel
theorem dL_match_48 : decode cL_match 48 = .ok (.goto 201, 3) := by decide +kernel
theorem dL_match_51 : decode cL_match 51 = .ok (.iconst 0, 1) := by decide +kernel
theorem dL_match_52 : decode cL_match 52 = .ok (.istore 6, 2) := by decide +kernel
theorem dL_match_54 : decode cL_match 54 = .ok (.iload 6, 2) := by decide +kernel
theorem dL_match_56 : decode cL_match 56 = .ok (.aload_n 0, 1) := by decide +kernel
theorem dL_match_57 : decode cL_match 57 = .ok (.iconst 0, 1) := by decide +kernel
theorem dL_match_58 : decode cL_match 58 = .ok (.iaload, 1) := by decide +kernel
theorem dL_match_59 : decode cL_match 59 = .ok (.iconst 1, 1) := by decide +kernel
theorem dL_match_60 : decode cL_match 60 = .ok (.if_icmp .le 9, 3) := by decide +kernel
theorem dL_match_63 : decode cL_match 63 = .ok (.aload_n 2, 1) := by decide +kernel
theorem dL_match_64 : decode cL_match 64 = .ok (.iconst 1, 1) := by decide +kernel
theorem dL_match_65 : decode cL_match 65 = .ok (.iaload, 1) := by decide +kernel
theorem dL_match_66 : decode cL_match 66 = .ok (.goto 4, 3) := by decide +kernel
theorem dL_match_69 : decode cL_match 69 = .ok (.iconst 1, 1) := by decide +kernel
theorem dL_match_70 : decode cL_match 70 = .ok (.if_icmp .ge 179, 3) := by decide +kernel
theorem dL_match_73 : decode cL_match 73 = .ok (.aload_n 0, 1) := by decide +kernel
theorem dL_match_74 : decode cL_match 74 = .ok (.iconst 0, 1) := by decide +kernel
theorem dL_match_75 : decode cL_match 75 = .ok (.iaload, 1) := by decide +kernel
theorem dL_match_76 : decode cL_match 76 = .ok (.iconst 1, 1) := by decide +kernel
theorem dL_match_77 : decode cL_match 77 = .ok (.if_icmp .le 22, 3) := by decide +kernel
theorem dL_match_80 : decode cL_match 80 = .ok (.aload_n 0, 1) := by decide +kernel
theorem dL_match_81 : decode cL_match 81 = .ok (.iconst 1, 1) := by decide +kernel
theorem dL_match_82 : decode cL_match 82 = .ok (.aload_n 1, 1) := by decide +kernel
theorem dL_match_83 : decode cL_match 83 = .ok (.bipush 10, 2) := by decide +kernel
theorem dL_match_85 : decode cL_match 85 = .ok (.iload 6, 2) := by decide +kernel
theorem dL_match_87 : decode cL_match 87 = .ok (.iadd, 1) := by decide +kernel
theorem dL_match_88 : decode cL_match 88 = .ok (.laload, 1) := by decide +kernel
theorem dL_match_89 : decode cL_match 89 = .ok (.iconst 1, 1) := by decide +kernel
theorem dL_match_90 : decode cL_match 90 = .ok (.invokestatic 229, 3) := by decide +kernel
theorem dL_match_93 : decode cL_match 93 = .ok (.ifCond .ne 6, 3) := by decide +kernel
theorem dL_match_96 : decode cL_match 96 = .ok (.goto 147, 3) := by decide +kernel
theorem dL_match_99 : decode cL_match 99 = .ok (.iconst 0, 1) := by decide +kernel
theorem dL_match_100 : decode cL_match 100 = .ok (.istore 7, 2) := by decide +kernel
theorem dL_match_102 : decode cL_match 102 = .ok (.iload 7, 2) := by decide +kernel
theorem dL_match_104 : decode cL_match 104 = .ok (.aload_n 0, 1) := by decide +kernel
theorem dL_match_105 : decode cL_match 105 = .ok (.iconst 0, 1) := by decide +kernel
theorem dL_match_106 : decode cL_match 106 = .ok (.iaload, 1) := by decide +kernel
theorem dL_match_107 : decode cL_match 107 = .ok (.iconst 2, 1) := by decide +kernel
theorem dL_match_108 : decode cL_match 108 = .ok (.if_icmp .le 9, 3) := by decide +kernel
theorem dL_match_111 : decode cL_match 111 = .ok (.aload_n 2, 1) := by decide +kernel
theorem dL_match_112 : decode cL_match 112 = .ok (.iconst 2, 1) := by decide +kernel
theorem dL_match_113 : decode cL_match 113 = .ok (.iaload, 1) := by decide +kernel
theorem dL_match_114 : decode cL_match 114 = .ok (.goto 4, 3) := by decide +kernel
theorem dL_match_117 : decode cL_match 117 = .ok (.iconst 1, 1) := by decide +kernel
theorem dL_match_118 : decode cL_match 118 = .ok (.if_icmp .ge 125, 3) := by decide +kernel
theorem dL_match_121 : decode cL_match 121 = .ok (.aload_n 0, 1) := by decide +kernel
theorem dL_match_122 : decode cL_match 122 = .ok (.iconst 0, 1) := by decide +kernel
theorem dL_match_123 : decode cL_match 123 = .ok (.iaload, 1) := by decide +kernel
theorem dL_match_124 : decode cL_match 124 = .ok (.iconst 2, 1) := by decide +kernel
theorem dL_match_125 : decode cL_match 125 = .ok (.if_icmp .le 19, 3) := by decide +kernel
theorem dL_match_128 : decode cL_match 128 = .ok (.aload_n 0, 1) := by decide +kernel
theorem dL_match_129 : decode cL_match 129 = .ok (.iconst 2, 1) := by decide +kernel
theorem dL_match_130 : decode cL_match 130 = .ok (.aload_n 1, 1) := by decide +kernel
theorem dL_match_131 : decode cL_match 131 = .ok (.bipush 20, 2) := by decide +kernel
theorem dL_match_133 : decode cL_match 133 = .ok (.iload 7, 2) := by decide +kernel
theorem dL_match_135 : decode cL_match 135 = .ok (.iadd, 1) := by decide +kernel
theorem dL_match_136 : decode cL_match 136 = .ok (.laload, 1) := by decide +kernel
theorem dL_match_137 : decode cL_match 137 = .ok (.iconst 1, 1) := by decide +kernel
theorem dL_match_138 : decode cL_match 138 = .ok (.invokestatic 229, 3) := by decide +kernel
theorem dL_match_141 : decode cL_match 141 = .ok (.ifCond .eq 96, 3) := by decide +kernel
theorem dL_match_144 : decode cL_match 144 = .ok (.aload_n 0, 1) := by decide +kernel
theorem dL_match_145 : decode cL_match 145 = .ok (.aload_n 1, 1) := by decide +kernel
theorem dL_match_146 : decode cL_match 146 = .ok (.iload 5, 2) := by decide +kernel
theorem dL_match_148 : decode cL_match 148 = .ok (.iload 6, 2) := by decide +kernel
theorem dL_match_150 : decode cL_match 150 = .ok (.iload 7, 2) := by decide +kernel
theorem dL_match_152 : decode cL_match 152 = .ok (.invokestatic 271, 3) := by decide +kernel
theorem dL_match_155 : decode cL_match 155 = .ok (.ifCond .ne 6, 3) := by decide +kernel
theorem dL_match_158 : decode cL_match 158 = .ok (.goto 79, 3) := by decide +kernel
theorem dL_match_161 : decode cL_match 161 = .ok (.aload_n 0, 1) := by decide +kernel
theorem dL_match_162 : decode cL_match 162 = .ok (.iconst 5, 1) := by decide +kernel
theorem dL_match_163 : decode cL_match 163 = .ok (.iaload, 1) := by decide +kernel
theorem dL_match_164 : decode cL_match 164 = .ok (.iconst 1, 1) := by decide +kernel
theorem dL_match_165 : decode cL_match 165 = .ok (.if_icmp .ne 22, 3) := by decide +kernel
theorem dL_match_168 : decode cL_match 168 = .ok (.aload_n 0, 1) := by decide +kernel
theorem dL_match_169 : decode cL_match 169 = .ok (.aload_n 1, 1) := by decide +kernel
theorem dL_match_170 : decode cL_match 170 = .ok (.aload_n 3, 1) := by decide +kernel
theorem dL_match_171 : decode cL_match 171 = .ok (.iload 5, 2) := by decide +kernel
theorem dL_match_173 : decode cL_match 173 = .ok (.iload 6, 2) := by decide +kernel
theorem dL_match_175 : decode cL_match 175 = .ok (.iload 7, 2) := by decide +kernel
theorem dL_match_177 : decode cL_match 177 = .ok (.iload 4, 2) := by decide +kernel
theorem dL_match_179 : decode cL_match 179 = .ok (.invokestatic 275, 3) := by decide +kernel
