theorem d_W_law_386 : decode c_W_law 386 = .ok (.aload_n 1, 1) := by decide +kernel
theorem d_W_law_387 : decode c_W_law 387 = .ok (.aload_n 0, 1) := by decide +kernel
theorem d_W_law_388 : decode c_W_law 388 = .ok (.iload_n 3, 1) := by decide +kernel
theorem d_W_law_389 : decode c_W_law 389 = .ok (.iconst 1, 1) := by decide +kernel
theorem d_W_law_390 : decode c_W_law 390 = .ok (.iadd, 1) := by decide +kernel
theorem d_W_law_391 : decode c_W_law 391 = .ok (.iaload, 1) := by decide +kernel
theorem d_W_law_392 : decode c_W_law 392 = .ok (.aload_n 0, 1) := by decide +kernel
theorem d_W_law_393 : decode c_W_law 393 = .ok (.iload_n 3, 1) := by decide +kernel
theorem d_W_law_394 : decode c_W_law 394 = .ok (.iconst 2, 1) := by decide +kernel
theorem d_W_law_395 : decode c_W_law 395 = .ok (.iadd, 1) := by decide +kernel
theorem d_W_law_396 : decode c_W_law 396 = .ok (.iaload, 1) := by decide +kernel
theorem d_W_law_397 : decode c_W_law 397 = .ok (.aload_n 0, 1) := by decide +kernel
theorem d_W_law_398 : decode c_W_law 398 = .ok (.iload_n 3, 1) := by decide +kernel
theorem d_W_law_399 : decode c_W_law 399 = .ok (.iconst 3, 1) := by decide +kernel
theorem d_W_law_400 : decode c_W_law 400 = .ok (.iadd, 1) := by decide +kernel
theorem d_W_law_401 : decode c_W_law 401 = .ok (.iaload, 1) := by decide +kernel
theorem d_W_law_402 : decode c_W_law 402 = .ok (.i2l, 1) := by decide +kernel
theorem d_W_law_403 : decode c_W_law 403 = .ok (.bipush 32, 2) := by decide +kernel
theorem d_W_law_405 : decode c_W_law 405 = .ok (.lshl, 1) := by decide +kernel
theorem d_W_law_406 : decode c_W_law 406 = .ok (.aload_n 0, 1) := by decide +kernel
theorem d_W_law_407 : decode c_W_law 407 = .ok (.iload_n 3, 1) := by decide +kernel
theorem d_W_law_408 : decode c_W_law 408 = .ok (.iconst 4, 1) := by decide +kernel
theorem d_W_law_409 : decode c_W_law 409 = .ok (.iadd, 1) := by decide +kernel
theorem d_W_law_410 : decode c_W_law 410 = .ok (.iaload, 1) := by decide +kernel
theorem d_W_law_411 : decode c_W_law 411 = .ok (.i2l, 1) := by decide +kernel
theorem d_W_law_412 : decode c_W_law 412 = .ok (.ldc2_w 27, 3) := by decide +kernel
theorem d_W_law_415 : decode c_W_law 415 = .ok (.land, 1) := by decide +kernel
theorem d_W_law_416 : decode c_W_law 416 = .ok (.lor, 1) := by decide +kernel
theorem d_W_law_417 : decode c_W_law 417 = .ok (.invokevirtual 52, 3) := by decide +kernel
theorem d_W_law_420 : decode c_W_law 420 = .ok (.aload_n 2, 1) := by decide +kernel
theorem d_W_law_421 : decode c_W_law 421 = .ok (.aload_n 0, 1) := by decide +kernel
theorem d_W_law_422 : decode c_W_law 422 = .ok (.iload_n 3, 1) := by decide +kernel
theorem d_W_law_423 : decode c_W_law 423 = .ok (.iconst 1, 1) := by decide +kernel
theorem d_W_law_424 : decode c_W_law 424 = .ok (.iadd, 1) := by decide +kernel
theorem d_W_law_425 : decode c_W_law 425 = .ok (.iaload, 1) := by decide +kernel
theorem d_W_law_426 : decode c_W_law 426 = .ok (.aload_n 0, 1) := by decide +kernel
theorem d_W_law_427 : decode c_W_law 427 = .ok (.iload_n 3, 1) := by decide +kernel
theorem d_W_law_428 : decode c_W_law 428 = .ok (.iconst 2, 1) := by decide +kernel
theorem d_W_law_429 : decode c_W_law 429 = .ok (.iadd, 1) := by decide +kernel
theorem d_W_law_430 : decode c_W_law 430 = .ok (.iaload, 1) := by decide +kernel
theorem d_W_law_431 : decode c_W_law 431 = .ok (.aload_n 0, 1) := by decide +kernel
theorem d_W_law_432 : decode c_W_law 432 = .ok (.iload_n 3, 1) := by decide +kernel
theorem d_W_law_433 : decode c_W_law 433 = .ok (.iconst 3, 1) := by decide +kernel
theorem d_W_law_434 : decode c_W_law 434 = .ok (.iadd, 1) := by decide +kernel
theorem d_W_law_435 : decode c_W_law 435 = .ok (.iaload, 1) := by decide +kernel
theorem d_W_law_436 : decode c_W_law 436 = .ok (.i2l, 1) := by decide +kernel
theorem d_W_law_437 : decode c_W_law 437 = .ok (.bipush 32, 2) := by decide +kernel
theorem d_W_law_439 : decode c_W_law 439 = .ok (.lshl, 1) := by decide +kernel
theorem d_W_law_440 : decode c_W_law 440 = .ok (.aload_n 0, 1) := by decide +kernel
theorem d_W_law_441 : decode c_W_law 441 = .ok (.iload_n 3, 1) := by decide +kernel
theorem d_W_law_442 : decode c_W_law 442 = .ok (.iconst 4, 1) := by decide +kernel
theorem d_W_law_443 : decode c_W_law 443 = .ok (.iadd, 1) := by decide +kernel
theorem d_W_law_444 : decode c_W_law 444 = .ok (.iaload, 1) := by decide +kernel
theorem d_W_law_445 : decode c_W_law 445 = .ok (.i2l, 1) := by decide +kernel
theorem d_W_law_446 : decode c_W_law 446 = .ok (.ldc2_w 27, 3) := by decide +kernel
theorem d_W_law_449 : decode c_W_law 449 = .ok (.land, 1) := by decide +kernel
theorem d_W_law_450 : decode c_W_law 450 = .ok (.lor, 1) := by decide +kernel
theorem d_W_law_451 : decode c_W_law 451 = .ok (.invokevirtual 56, 3) := by decide +kernel
theorem d_W_law_454 : decode c_W_law 454 = .ok (.if_icmp .eq 236, 3) := by decide +kernel
theorem d_W_law_457 : decode c_W_law 457 = .ok (.iconst 0, 1) := by decide +kernel
theorem d_W_law_458 : decode c_W_law 458 = .ok (.ireturn, 1) := by decide +kernel
theorem d_W_law_459 : decode c_W_law 459 = .ok (.aload_n 1, 1) := by decide +kernel
theorem d_W_law_460 : decode c_W_law 460 = .ok (.aload_n 0, 1) := by decide +kernel
theorem d_W_law_461 : decode c_W_law 461 = .ok (.iload_n 3, 1) := by decide +kernel
theorem d_W_law_462 : decode c_W_law 462 = .ok (.iconst 1, 1) := by decide +kernel
theorem d_W_law_463 : decode c_W_law 463 = .ok (.iadd, 1) := by decide +kernel
theorem d_W_law_464 : decode c_W_law 464 = .ok (.iaload, 1) := by decide +kernel
theorem d_W_law_465 : decode c_W_law 465 = .ok (.aload_n 0, 1) := by decide +kernel
theorem d_W_law_466 : decode c_W_law 466 = .ok (.iload_n 3, 1) := by decide +kernel
theorem d_W_law_467 : decode c_W_law 467 = .ok (.iconst 2, 1) := by decide +kernel
theorem d_W_law_468 : decode c_W_law 468 = .ok (.iadd, 1) := by decide +kernel
theorem d_W_law_469 : decode c_W_law 469 = .ok (.iaload, 1) := by decide +kernel
theorem d_W_law_470 : decode c_W_law 470 = .ok (.aload_n 0, 1) := by decide +kernel
theorem d_W_law_471 : decode c_W_law 471 = .ok (.iload_n 3, 1) := by decide +kernel
theorem d_W_law_472 : decode c_W_law 472 = .ok (.iconst 3, 1) := by decide +kernel
theorem d_W_law_473 : decode c_W_law 473 = .ok (.iadd, 1) := by decide +kernel
theorem d_W_law_474 : decode c_W_law 474 = .ok (.iaload, 1) := by decide +kernel
theorem d_W_law_475 : decode c_W_law 475 = .ok (.i2l, 1) := by decide +kernel
theorem d_W_law_476 : decode c_W_law 476 = .ok (.bipush 32, 2) := by decide +kernel
theorem d_W_law_478 : decode c_W_law 478 = .ok (.lshl, 1) := by decide +kernel
theorem d_W_law_479 : decode c_W_law 479 = .ok (.aload_n 0, 1) := by decide +kernel
theorem d_W_law_480 : decode c_W_law 480 = .ok (.iload_n 3, 1) := by decide +kernel
theorem d_W_law_481 : decode c_W_law 481 = .ok (.iconst 4, 1) := by decide +kernel
theorem d_W_law_482 : decode c_W_law 482 = .ok (.iadd, 1) := by decide +kernel
theorem d_W_law_483 : decode c_W_law 483 = .ok (.iaload, 1) := by decide +kernel
theorem d_W_law_484 : decode c_W_law 484 = .ok (.i2l, 1) := by decide +kernel
theorem d_W_law_485 : decode c_W_law 485 = .ok (.ldc2_w 27, 3) := by decide +kernel
theorem d_W_law_488 : decode c_W_law 488 = .ok (.land, 1) := by decide +kernel
theorem d_W_law_489 : decode c_W_law 489 = .ok (.lor, 1) := by decide +kernel
theorem d_W_law_490 : decode c_W_law 490 = .ok (.invokevirtual 57, 3) := by decide +kernel
theorem d_W_law_493 : decode c_W_law 493 = .ok (.aload_n 2, 1) := by decide +kernel
theorem d_W_law_494 : decode c_W_law 494 = .ok (.aload_n 0, 1) := by decide +kernel
theorem d_W_law_495 : decode c_W_law 495 = .ok (.iload_n 3, 1) := by decide +kernel
theorem d_W_law_496 : decode c_W_law 496 = .ok (.iconst 1, 1) := by decide +kernel
theorem d_W_law_497 : decode c_W_law 497 = .ok (.iadd, 1) := by decide +kernel
theorem d_W_law_498 : decode c_W_law 498 = .ok (.iaload, 1) := by decide +kernel
theorem d_W_law_499 : decode c_W_law 499 = .ok (.aload_n 0, 1) := by decide +kernel
theorem d_W_law_500 : decode c_W_law 500 = .ok (.iload_n 3, 1) := by decide +kernel
theorem d_W_law_501 : decode c_W_law 501 = .ok (.iconst 2, 1) := by decide +kernel
theorem d_W_law_502 : decode c_W_law 502 = .ok (.iadd, 1) := by decide +kernel
theorem d_W_law_503 : decode c_W_law 503 = .ok (.iaload, 1) := by decide +kernel
theorem d_W_law_504 : decode c_W_law 504 = .ok (.aload_n 0, 1) := by decide +kernel
theorem d_W_law_505 : decode c_W_law 505 = .ok (.iload_n 3, 1) := by decide +kernel
theorem d_W_law_506 : decode c_W_law 506 = .ok (.iconst 3, 1) := by decide +kernel
theorem d_W_law_507 : decode c_W_law 507 = .ok (.iadd, 1) := by decide +kernel
theorem d_W_law_508 : decode c_W_law 508 = .ok (.iaload, 1) := by decide +kernel
theorem d_W_law_509 : decode c_W_law 509 = .ok (.i2l, 1) := by decide +kernel
theorem d_W_law_510 : decode c_W_law 510 = .ok (.bipush 32, 2) := by decide +kernel
theorem d_W_law_512 : decode c_W_law 512 = .ok (.lshl, 1) := by decide +kernel
theorem d_W_law_513 : decode c_W_law 513 = .ok (.aload_n 0, 1) := by decide +kernel
theorem d_W_law_514 : decode c_W_law 514 = .ok (.iload_n 3, 1) := by decide +kernel
theorem d_W_law_515 : decode c_W_law 515 = .ok (.iconst 4, 1) := by decide +kernel
theorem d_W_law_516 : decode c_W_law 516 = .ok (.iadd, 1) := by decide +kernel
theorem d_W_law_517 : decode c_W_law 517 = .ok (.iaload, 1) := by decide +kernel
theorem d_W_law_518 : decode c_W_law 518 = .ok (.i2l, 1) := by decide +kernel
theorem d_W_law_519 : decode c_W_law 519 = .ok (.ldc2_w 27, 3) := by decide +kernel
theorem d_W_law_522 : decode c_W_law 522 = .ok (.land, 1) := by decide +kernel
theorem d_W_law_523 : decode c_W_law 523 = .ok (.lor, 1) := by decide +kernel
theorem d_W_law_524 : decode c_W_law 524 = .ok (.invokevirtual 60, 3) := by decide +kernel
theorem d_W_law_527 : decode c_W_law 527 = .ok (.if_icmp .eq 163, 3) := by decide +kernel
theorem d_W_law_530 : decode c_W_law 530 = .ok (.iconst 0, 1) := by decide +kernel
theorem d_W_law_531 : decode c_W_law 531 = .ok (.ireturn, 1) := by decide +kernel
theorem d_W_law_532 : decode c_W_law 532 = .ok (.aload_n 1, 1) := by decide +kernel
theorem d_W_law_533 : decode c_W_law 533 = .ok (.aload_n 0, 1) := by decide +kernel
theorem d_W_law_534 : decode c_W_law 534 = .ok (.iload_n 3, 1) := by decide +kernel
theorem d_W_law_535 : decode c_W_law 535 = .ok (.iconst 1, 1) := by decide +kernel
theorem d_W_law_536 : decode c_W_law 536 = .ok (.iadd, 1) := by decide +kernel
theorem d_W_law_537 : decode c_W_law 537 = .ok (.iaload, 1) := by decide +kernel
theorem d_W_law_538 : decode c_W_law 538 = .ok (.aload_n 0, 1) := by decide +kernel
theorem d_W_law_539 : decode c_W_law 539 = .ok (.iload_n 3, 1) := by decide +kernel
theorem d_W_law_540 : decode c_W_law 540 = .ok (.iconst 2, 1) := by decide +kernel
theorem d_W_law_541 : decode c_W_law 541 = .ok (.iadd, 1) := by decide +kernel
theorem d_W_law_542 : decode c_W_law 542 = .ok (.iaload, 1) := by decide +kernel
theorem d_W_law_543 : decode c_W_law 543 = .ok (.i2l, 1) := by decide +kernel
theorem d_W_law_544 : decode c_W_law 544 = .ok (.bipush 32, 2) := by decide +kernel
theorem d_W_law_546 : decode c_W_law 546 = .ok (.lshl, 1) := by decide +kernel
theorem d_W_law_547 : decode c_W_law 547 = .ok (.aload_n 0, 1) := by decide +kernel
theorem d_W_law_548 : decode c_W_law 548 = .ok (.iload_n 3, 1) := by decide +kernel
theorem d_W_law_549 : decode c_W_law 549 = .ok (.iconst 3, 1) := by decide +kernel
theorem d_W_law_550 : decode c_W_law 550 = .ok (.iadd, 1) := by decide +kernel
theorem d_W_law_551 : decode c_W_law 551 = .ok (.iaload, 1) := by decide +kernel
theorem d_W_law_552 : decode c_W_law 552 = .ok (.i2l, 1) := by decide +kernel
theorem d_W_law_553 : decode c_W_law 553 = .ok (.ldc2_w 27, 3) := by decide +kernel
theorem d_W_law_556 : decode c_W_law 556 = .ok (.land, 1) := by decide +kernel
theorem d_W_law_557 : decode c_W_law 557 = .ok (.lor, 1) := by decide +kernel
theorem d_W_law_558 : decode c_W_law 558 = .ok (.invokevirtual 61, 3) := by decide +kernel
theorem d_W_law_561 : decode c_W_law 561 = .ok (.aload_n 2, 1) := by decide +kernel
theorem d_W_law_562 : decode c_W_law 562 = .ok (.aload_n 0, 1) := by decide +kernel
theorem d_W_law_563 : decode c_W_law 563 = .ok (.iload_n 3, 1) := by decide +kernel
theorem d_W_law_564 : decode c_W_law 564 = .ok (.iconst 1, 1) := by decide +kernel
theorem d_W_law_565 : decode c_W_law 565 = .ok (.iadd, 1) := by decide +kernel
theorem d_W_law_566 : decode c_W_law 566 = .ok (.iaload, 1) := by decide +kernel
theorem d_W_law_567 : decode c_W_law 567 = .ok (.aload_n 0, 1) := by decide +kernel
theorem d_W_law_568 : decode c_W_law 568 = .ok (.iload_n 3, 1) := by decide +kernel
theorem d_W_law_569 : decode c_W_law 569 = .ok (.iconst 2, 1) := by decide +kernel
theorem d_W_law_570 : decode c_W_law 570 = .ok (.iadd, 1) := by decide +kernel
theorem d_W_law_571 : decode c_W_law 571 = .ok (.iaload, 1) := by decide +kernel
theorem d_W_law_572 : decode c_W_law 572 = .ok (.i2l, 1) := by decide +kernel
theorem d_W_law_573 : decode c_W_law 573 = .ok (.bipush 32, 2) := by decide +kernel
theorem d_W_law_575 : decode c_W_law 575 = .ok (.lshl, 1) := by decide +kernel
theorem d_W_law_576 : decode c_W_law 576 = .ok (.aload_n 0, 1) := by decide +kernel
theorem d_W_law_577 : decode c_W_law 577 = .ok (.iload_n 3, 1) := by decide +kernel
theorem d_W_law_578 : decode c_W_law 578 = .ok (.iconst 3, 1) := by decide +kernel
theorem d_W_law_579 : decode c_W_law 579 = .ok (.iadd, 1) := by decide +kernel
theorem d_W_law_580 : decode c_W_law 580 = .ok (.iaload, 1) := by decide +kernel
theorem d_W_law_581 : decode c_W_law 581 = .ok (.i2l, 1) := by decide +kernel
theorem d_W_law_582 : decode c_W_law 582 = .ok (.ldc2_w 27, 3) := by decide +kernel
theorem d_W_law_585 : decode c_W_law 585 = .ok (.land, 1) := by decide +kernel
theorem d_W_law_586 : decode c_W_law 586 = .ok (.lor, 1) := by decide +kernel
theorem d_W_law_587 : decode c_W_law 587 = .ok (.invokevirtual 64, 3) := by decide +kernel
theorem d_W_law_590 : decode c_W_law 590 = .ok (.if_icmp .eq 100, 3) := by decide +kernel
theorem d_W_law_593 : decode c_W_law 593 = .ok (.iconst 0, 1) := by decide +kernel
theorem d_W_law_594 : decode c_W_law 594 = .ok (.ireturn, 1) := by decide +kernel
theorem d_W_law_595 : decode c_W_law 595 = .ok (.aload_n 1, 1) := by decide +kernel
theorem d_W_law_596 : decode c_W_law 596 = .ok (.invokevirtual 65, 3) := by decide +kernel
theorem d_W_law_599 : decode c_W_law 599 = .ok (.aload_n 2, 1) := by decide +kernel
theorem d_W_law_600 : decode c_W_law 600 = .ok (.invokevirtual 68, 3) := by decide +kernel
theorem d_W_law_603 : decode c_W_law 603 = .ok (.if_icmp .eq 87, 3) := by decide +kernel
theorem d_W_law_606 : decode c_W_law 606 = .ok (.iconst 0, 1) := by decide +kernel
theorem d_W_law_607 : decode c_W_law 607 = .ok (.ireturn, 1) := by decide +kernel
theorem d_W_law_608 : decode c_W_law 608 = .ok (.aload_n 1, 1) := by decide +kernel
theorem d_W_law_609 : decode c_W_law 609 = .ok (.invokevirtual 69, 3) := by decide +kernel
theorem d_W_law_612 : decode c_W_law 612 = .ok (.aload_n 2, 1) := by decide +kernel
theorem d_W_law_613 : decode c_W_law 613 = .ok (.invokevirtual 72, 3) := by decide +kernel
theorem d_W_law_616 : decode c_W_law 616 = .ok (.if_icmp .eq 74, 3) := by decide +kernel
theorem d_W_law_619 : decode c_W_law 619 = .ok (.iconst 0, 1) := by decide +kernel
theorem d_W_law_620 : decode c_W_law 620 = .ok (.ireturn, 1) := by decide +kernel
theorem d_W_law_621 : decode c_W_law 621 = .ok (.aload_n 1, 1) := by decide +kernel
theorem d_W_law_622 : decode c_W_law 622 = .ok (.aload_n 0, 1) := by decide +kernel
theorem d_W_law_623 : decode c_W_law 623 = .ok (.iload_n 3, 1) := by decide +kernel
theorem d_W_law_624 : decode c_W_law 624 = .ok (.iconst 1, 1) := by decide +kernel
theorem d_W_law_625 : decode c_W_law 625 = .ok (.iadd, 1) := by decide +kernel
theorem d_W_law_626 : decode c_W_law 626 = .ok (.iaload, 1) := by decide +kernel
theorem d_W_law_627 : decode c_W_law 627 = .ok (.invokevirtual 73, 3) := by decide +kernel
theorem d_W_law_630 : decode c_W_law 630 = .ok (.aload_n 2, 1) := by decide +kernel
theorem d_W_law_631 : decode c_W_law 631 = .ok (.aload_n 0, 1) := by decide +kernel
theorem d_W_law_632 : decode c_W_law 632 = .ok (.iload_n 3, 1) := by decide +kernel
theorem d_W_law_633 : decode c_W_law 633 = .ok (.iconst 1, 1) := by decide +kernel
theorem d_W_law_634 : decode c_W_law 634 = .ok (.iadd, 1) := by decide +kernel
theorem d_W_law_635 : decode c_W_law 635 = .ok (.iaload, 1) := by decide +kernel
theorem d_W_law_636 : decode c_W_law 636 = .ok (.invokevirtual 76, 3) := by decide +kernel
theorem d_W_law_639 : decode c_W_law 639 = .ok (.if_icmp .eq 51, 3) := by decide +kernel
theorem d_W_law_642 : decode c_W_law 642 = .ok (.iconst 0, 1) := by decide +kernel
theorem d_W_law_643 : decode c_W_law 643 = .ok (.ireturn, 1) := by decide +kernel
theorem d_W_law_644 : decode c_W_law 644 = .ok (.aload_n 1, 1) := by decide +kernel
theorem d_W_law_645 : decode c_W_law 645 = .ok (.aload_n 0, 1) := by decide +kernel
theorem d_W_law_646 : decode c_W_law 646 = .ok (.iload_n 3, 1) := by decide +kernel
theorem d_W_law_647 : decode c_W_law 647 = .ok (.iconst 1, 1) := by decide +kernel
theorem d_W_law_648 : decode c_W_law 648 = .ok (.iadd, 1) := by decide +kernel
theorem d_W_law_649 : decode c_W_law 649 = .ok (.iaload, 1) := by decide +kernel
theorem d_W_law_650 : decode c_W_law 650 = .ok (.invokevirtual 77, 3) := by decide +kernel
theorem d_W_law_653 : decode c_W_law 653 = .ok (.aload_n 2, 1) := by decide +kernel
theorem d_W_law_654 : decode c_W_law 654 = .ok (.aload_n 0, 1) := by decide +kernel
theorem d_W_law_655 : decode c_W_law 655 = .ok (.iload_n 3, 1) := by decide +kernel
theorem d_W_law_656 : decode c_W_law 656 = .ok (.iconst 1, 1) := by decide +kernel
theorem d_W_law_657 : decode c_W_law 657 = .ok (.iadd, 1) := by decide +kernel
theorem d_W_law_658 : decode c_W_law 658 = .ok (.iaload, 1) := by decide +kernel
theorem d_W_law_659 : decode c_W_law 659 = .ok (.invokevirtual 80, 3) := by decide +kernel
theorem d_W_law_662 : decode c_W_law 662 = .ok (.if_icmp .eq 28, 3) := by decide +kernel
theorem d_W_law_665 : decode c_W_law 665 = .ok (.iconst 0, 1) := by decide +kernel
theorem d_W_law_666 : decode c_W_law 666 = .ok (.ireturn, 1) := by decide +kernel
theorem d_W_law_667 : decode c_W_law 667 = .ok (.aload_n 1, 1) := by decide +kernel
theorem d_W_law_668 : decode c_W_law 668 = .ok (.aload_n 0, 1) := by decide +kernel
theorem d_W_law_669 : decode c_W_law 669 = .ok (.iload_n 3, 1) := by decide +kernel
theorem d_W_law_670 : decode c_W_law 670 = .ok (.iconst 1, 1) := by decide +kernel
theorem d_W_law_671 : decode c_W_law 671 = .ok (.iadd, 1) := by decide +kernel
theorem d_W_law_672 : decode c_W_law 672 = .ok (.iaload, 1) := by decide +kernel
theorem d_W_law_673 : decode c_W_law 673 = .ok (.invokevirtual 81, 3) := by decide +kernel
theorem d_W_law_676 : decode c_W_law 676 = .ok (.aload_n 2, 1) := by decide +kernel
theorem d_W_law_677 : decode c_W_law 677 = .ok (.aload_n 0, 1) := by decide +kernel
theorem d_W_law_678 : decode c_W_law 678 = .ok (.iload_n 3, 1) := by decide +kernel
theorem d_W_law_679 : decode c_W_law 679 = .ok (.iconst 1, 1) := by decide +kernel
theorem d_W_law_680 : decode c_W_law 680 = .ok (.iadd, 1) := by decide +kernel
theorem d_W_law_681 : decode c_W_law 681 = .ok (.iaload, 1) := by decide +kernel
theorem d_W_law_682 : decode c_W_law 682 = .ok (.invokevirtual 84, 3) := by decide +kernel
theorem d_W_law_685 : decode c_W_law 685 = .ok (.if_icmp .eq 5, 3) := by decide +kernel
theorem d_W_law_688 : decode c_W_law 688 = .ok (.iconst 0, 1) := by decide +kernel
theorem d_W_law_689 : decode c_W_law 689 = .ok (.ireturn, 1) := by decide +kernel
theorem d_W_law_690 : decode c_W_law 690 = .ok (.iinc 3 5, 3) := by decide +kernel
theorem d_W_law_693 : decode c_W_law 693 = .ok (.goto (-675), 3) := by decide +kernel
theorem d_W_law_696 : decode c_W_law 696 = .ok (.iconst 1, 1) := by decide +kernel
theorem d_W_law_697 : decode c_W_law 697 = .ok (.ireturn, 1) := by decide +kernel
