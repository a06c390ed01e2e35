/-! The law's regular cases -/
theorem dK_331 : decode cL_law 331 = .ok (.aload_n 1, 1) := by decide +kernel
theorem dK_332 : decode cL_law 332 = .ok (.invokevirtual 34, 3) := by decide +kernel
theorem dK_335 : decode cL_law 335 = .ok (.aload_n 2, 1) := by decide +kernel
theorem dK_336 : decode cL_law 336 = .ok (.invokevirtual 38, 3) := by decide +kernel
theorem dK_339 : decode cL_law 339 = .ok (.if_icmp .eq 1278, 3) := by decide +kernel
theorem dK_344 : decode cL_law 344 = .ok (.aload_n 1, 1) := by decide +kernel
theorem dK_345 : decode cL_law 345 = .ok (.invokevirtual 39, 3) := by decide +kernel
theorem dK_348 : decode cL_law 348 = .ok (.aload_n 2, 1) := by decide +kernel
theorem dK_349 : decode cL_law 349 = .ok (.invokevirtual 42, 3) := by decide +kernel
theorem dK_352 : decode cL_law 352 = .ok (.if_icmp .eq 1265, 3) := by decide +kernel
theorem dK_357 : decode cL_law 357 = .ok (.aload_n 1, 1) := by decide +kernel
theorem dK_358 : decode cL_law 358 = .ok (.aload_n 0, 1) := by decide +kernel
theorem dK_359 : decode cL_law 359 = .ok (.iload 4, 2) := by decide +kernel
theorem dK_361 : decode cL_law 361 = .ok (.iconst 1, 1) := by decide +kernel
theorem dK_362 : decode cL_law 362 = .ok (.iadd, 1) := by decide +kernel
theorem dK_363 : decode cL_law 363 = .ok (.iaload, 1) := by decide +kernel
theorem dK_364 : decode cL_law 364 = .ok (.aload_n 0, 1) := by decide +kernel
theorem dK_365 : decode cL_law 365 = .ok (.iload 4, 2) := by decide +kernel
theorem dK_367 : decode cL_law 367 = .ok (.iconst 2, 1) := by decide +kernel
theorem dK_368 : decode cL_law 368 = .ok (.iadd, 1) := by decide +kernel
theorem dK_369 : decode cL_law 369 = .ok (.iaload, 1) := by decide +kernel
theorem dK_370 : decode cL_law 370 = .ok (.invokevirtual 43, 3) := by decide +kernel
theorem dK_373 : decode cL_law 373 = .ok (.aload_n 2, 1) := by decide +kernel
theorem dK_374 : decode cL_law 374 = .ok (.aload_n 0, 1) := by decide +kernel
theorem dK_375 : decode cL_law 375 = .ok (.iload 4, 2) := by decide +kernel
theorem dK_377 : decode cL_law 377 = .ok (.iconst 1, 1) := by decide +kernel
theorem dK_378 : decode cL_law 378 = .ok (.iadd, 1) := by decide +kernel
theorem dK_379 : decode cL_law 379 = .ok (.iaload, 1) := by decide +kernel
theorem dK_380 : decode cL_law 380 = .ok (.aload_n 0, 1) := by decide +kernel
theorem dK_381 : decode cL_law 381 = .ok (.iload 4, 2) := by decide +kernel
theorem dK_383 : decode cL_law 383 = .ok (.iconst 2, 1) := by decide +kernel
theorem dK_384 : decode cL_law 384 = .ok (.iadd, 1) := by decide +kernel
theorem dK_385 : decode cL_law 385 = .ok (.iaload, 1) := by decide +kernel
theorem dK_386 : decode cL_law 386 = .ok (.invokevirtual 46, 3) := by decide +kernel
theorem dK_389 : decode cL_law 389 = .ok (.if_icmp .eq 1228, 3) := by decide +kernel
theorem dK_394 : decode cL_law 394 = .ok (.aload_n 1, 1) := by decide +kernel
theorem dK_395 : decode cL_law 395 = .ok (.aload_n 0, 1) := by decide +kernel
theorem dK_396 : decode cL_law 396 = .ok (.iload 4, 2) := by decide +kernel
theorem dK_398 : decode cL_law 398 = .ok (.iconst 1, 1) := by decide +kernel
theorem dK_399 : decode cL_law 399 = .ok (.iadd, 1) := by decide +kernel
theorem dK_400 : decode cL_law 400 = .ok (.iaload, 1) := by decide +kernel
theorem dK_401 : decode cL_law 401 = .ok (.aload_n 0, 1) := by decide +kernel
theorem dK_402 : decode cL_law 402 = .ok (.iload 4, 2) := by decide +kernel
theorem dK_404 : decode cL_law 404 = .ok (.iconst 2, 1) := by decide +kernel
theorem dK_405 : decode cL_law 405 = .ok (.iadd, 1) := by decide +kernel
theorem dK_406 : decode cL_law 406 = .ok (.iaload, 1) := by decide +kernel
theorem dK_407 : decode cL_law 407 = .ok (.invokevirtual 47, 3) := by decide +kernel
theorem dK_410 : decode cL_law 410 = .ok (.aload_n 2, 1) := by decide +kernel
theorem dK_411 : decode cL_law 411 = .ok (.aload_n 0, 1) := by decide +kernel
theorem dK_412 : decode cL_law 412 = .ok (.iload 4, 2) := by decide +kernel
theorem dK_414 : decode cL_law 414 = .ok (.iconst 1, 1) := by decide +kernel
theorem dK_415 : decode cL_law 415 = .ok (.iadd, 1) := by decide +kernel
theorem dK_416 : decode cL_law 416 = .ok (.iaload, 1) := by decide +kernel
theorem dK_417 : decode cL_law 417 = .ok (.aload_n 0, 1) := by decide +kernel
theorem dK_418 : decode cL_law 418 = .ok (.iload 4, 2) := by decide +kernel
theorem dK_420 : decode cL_law 420 = .ok (.iconst 2, 1) := by decide +kernel
theorem dK_421 : decode cL_law 421 = .ok (.iadd, 1) := by decide +kernel
theorem dK_422 : decode cL_law 422 = .ok (.iaload, 1) := by decide +kernel
theorem dK_423 : decode cL_law 423 = .ok (.invokevirtual 50, 3) := by decide +kernel
theorem dK_426 : decode cL_law 426 = .ok (.if_icmp .eq 1191, 3) := by decide +kernel
theorem dK_431 : decode cL_law 431 = .ok (.aload_n 1, 1) := by decide +kernel
theorem dK_432 : decode cL_law 432 = .ok (.aload_n 0, 1) := by decide +kernel
theorem dK_433 : decode cL_law 433 = .ok (.iload 4, 2) := by decide +kernel
theorem dK_435 : decode cL_law 435 = .ok (.iconst 1, 1) := by decide +kernel
theorem dK_436 : decode cL_law 436 = .ok (.iadd, 1) := by decide +kernel
theorem dK_437 : decode cL_law 437 = .ok (.iaload, 1) := by decide +kernel
theorem dK_438 : decode cL_law 438 = .ok (.aload_n 0, 1) := by decide +kernel
theorem dK_439 : decode cL_law 439 = .ok (.iload 4, 2) := by decide +kernel
theorem dK_441 : decode cL_law 441 = .ok (.iconst 2, 1) := by decide +kernel
theorem dK_442 : decode cL_law 442 = .ok (.iadd, 1) := by decide +kernel
theorem dK_443 : decode cL_law 443 = .ok (.iaload, 1) := by decide +kernel
theorem dK_444 : decode cL_law 444 = .ok (.aload_n 0, 1) := by decide +kernel
theorem dK_445 : decode cL_law 445 = .ok (.iload 4, 2) := by decide +kernel
theorem dK_447 : decode cL_law 447 = .ok (.iconst 3, 1) := by decide +kernel
theorem dK_448 : decode cL_law 448 = .ok (.iadd, 1) := by decide +kernel
theorem dK_449 : decode cL_law 449 = .ok (.iaload, 1) := by decide +kernel
theorem dK_450 : decode cL_law 450 = .ok (.invokevirtual 51, 3) := by decide +kernel
theorem dK_453 : decode cL_law 453 = .ok (.aload_n 2, 1) := by decide +kernel
theorem dK_454 : decode cL_law 454 = .ok (.aload_n 0, 1) := by decide +kernel
theorem dK_455 : decode cL_law 455 = .ok (.iload 4, 2) := by decide +kernel
theorem dK_457 : decode cL_law 457 = .ok (.iconst 1, 1) := by decide +kernel
theorem dK_458 : decode cL_law 458 = .ok (.iadd, 1) := by decide +kernel
theorem dK_459 : decode cL_law 459 = .ok (.iaload, 1) := by decide +kernel
theorem dK_460 : decode cL_law 460 = .ok (.aload_n 0, 1) := by decide +kernel
theorem dK_461 : decode cL_law 461 = .ok (.iload 4, 2) := by decide +kernel
theorem dK_463 : decode cL_law 463 = .ok (.iconst 2, 1) := by decide +kernel
theorem dK_464 : decode cL_law 464 = .ok (.iadd, 1) := by decide +kernel
theorem dK_465 : decode cL_law 465 = .ok (.iaload, 1) := by decide +kernel
theorem dK_466 : decode cL_law 466 = .ok (.aload_n 0, 1) := by decide +kernel
theorem dK_467 : decode cL_law 467 = .ok (.iload 4, 2) := by decide +kernel
theorem dK_469 : decode cL_law 469 = .ok (.iconst 3, 1) := by decide +kernel
theorem dK_470 : decode cL_law 470 = .ok (.iadd, 1) := by decide +kernel
theorem dK_471 : decode cL_law 471 = .ok (.iaload, 1) := by decide +kernel
theorem dK_472 : decode cL_law 472 = .ok (.invokevirtual 55, 3) := by decide +kernel
theorem dK_475 : decode cL_law 475 = .ok (.if_icmp .eq 1142, 3) := by decide +kernel
theorem dK_480 : decode cL_law 480 = .ok (.aload_n 1, 1) := by decide +kernel
theorem dK_481 : decode cL_law 481 = .ok (.aload_n 0, 1) := by decide +kernel
theorem dK_482 : decode cL_law 482 = .ok (.iload 4, 2) := by decide +kernel
theorem dK_484 : decode cL_law 484 = .ok (.iconst 1, 1) := by decide +kernel
theorem dK_485 : decode cL_law 485 = .ok (.iadd, 1) := by decide +kernel
theorem dK_486 : decode cL_law 486 = .ok (.iaload, 1) := by decide +kernel
theorem dK_487 : decode cL_law 487 = .ok (.aload_n 0, 1) := by decide +kernel
theorem dK_488 : decode cL_law 488 = .ok (.iload 4, 2) := by decide +kernel
theorem dK_490 : decode cL_law 490 = .ok (.iconst 2, 1) := by decide +kernel
theorem dK_491 : decode cL_law 491 = .ok (.iadd, 1) := by decide +kernel
theorem dK_492 : decode cL_law 492 = .ok (.iaload, 1) := by decide +kernel
theorem dK_493 : decode cL_law 493 = .ok (.invokevirtual 56, 3) := by decide +kernel
theorem dK_496 : decode cL_law 496 = .ok (.aload_n 2, 1) := by decide +kernel
theorem dK_497 : decode cL_law 497 = .ok (.aload_n 0, 1) := by decide +kernel
theorem dK_498 : decode cL_law 498 = .ok (.iload 4, 2) := by decide +kernel
theorem dK_500 : decode cL_law 500 = .ok (.iconst 1, 1) := by decide +kernel
theorem dK_501 : decode cL_law 501 = .ok (.iadd, 1) := by decide +kernel
theorem dK_502 : decode cL_law 502 = .ok (.iaload, 1) := by decide +kernel
theorem dK_503 : decode cL_law 503 = .ok (.aload_n 0, 1) := by decide +kernel
theorem dK_504 : decode cL_law 504 = .ok (.iload 4, 2) := by decide +kernel
theorem dK_506 : decode cL_law 506 = .ok (.iconst 2, 1) := by decide +kernel
theorem dK_507 : decode cL_law 507 = .ok (.iadd, 1) := by decide +kernel
theorem dK_508 : decode cL_law 508 = .ok (.iaload, 1) := by decide +kernel
theorem dK_509 : decode cL_law 509 = .ok (.invokevirtual 59, 3) := by decide +kernel
theorem dK_512 : decode cL_law 512 = .ok (.if_icmp .eq 1105, 3) := by decide +kernel
theorem dK_517 : decode cL_law 517 = .ok (.aload_n 1, 1) := by decide +kernel
theorem dK_518 : decode cL_law 518 = .ok (.aload_n 0, 1) := by decide +kernel
theorem dK_519 : decode cL_law 519 = .ok (.iload 4, 2) := by decide +kernel
theorem dK_521 : decode cL_law 521 = .ok (.iconst 1, 1) := by decide +kernel
theorem dK_522 : decode cL_law 522 = .ok (.iadd, 1) := by decide +kernel
theorem dK_523 : decode cL_law 523 = .ok (.iaload, 1) := by decide +kernel
theorem dK_524 : decode cL_law 524 = .ok (.aload_n 0, 1) := by decide +kernel
theorem dK_525 : decode cL_law 525 = .ok (.iload 4, 2) := by decide +kernel
theorem dK_527 : decode cL_law 527 = .ok (.iconst 2, 1) := by decide +kernel
theorem dK_528 : decode cL_law 528 = .ok (.iadd, 1) := by decide +kernel
theorem dK_529 : decode cL_law 529 = .ok (.iaload, 1) := by decide +kernel
theorem dK_530 : decode cL_law 530 = .ok (.aload_n 0, 1) := by decide +kernel
theorem dK_531 : decode cL_law 531 = .ok (.iload 4, 2) := by decide +kernel
theorem dK_533 : decode cL_law 533 = .ok (.iconst 3, 1) := by decide +kernel
theorem dK_534 : decode cL_law 534 = .ok (.iadd, 1) := by decide +kernel
theorem dK_535 : decode cL_law 535 = .ok (.iaload, 1) := by decide +kernel
theorem dK_536 : decode cL_law 536 = .ok (.aload_n 0, 1) := by decide +kernel
theorem dK_537 : decode cL_law 537 = .ok (.iload 4, 2) := by decide +kernel
theorem dK_539 : decode cL_law 539 = .ok (.iconst 4, 1) := by decide +kernel
theorem dK_540 : decode cL_law 540 = .ok (.iadd, 1) := by decide +kernel
theorem dK_541 : decode cL_law 541 = .ok (.iaload, 1) := by decide +kernel
theorem dK_542 : decode cL_law 542 = .ok (.invokevirtual 60, 3) := by decide +kernel
theorem dK_545 : decode cL_law 545 = .ok (.aload_n 2, 1) := by decide +kernel
theorem dK_546 : decode cL_law 546 = .ok (.aload_n 0, 1) := by decide +kernel
theorem dK_547 : decode cL_law 547 = .ok (.iload 4, 2) := by decide +kernel
theorem dK_549 : decode cL_law 549 = .ok (.iconst 1, 1) := by decide +kernel
theorem dK_550 : decode cL_law 550 = .ok (.iadd, 1) := by decide +kernel
theorem dK_551 : decode cL_law 551 = .ok (.iaload, 1) := by decide +kernel
theorem dK_552 : decode cL_law 552 = .ok (.aload_n 0, 1) := by decide +kernel
theorem dK_553 : decode cL_law 553 = .ok (.iload 4, 2) := by decide +kernel
theorem dK_555 : decode cL_law 555 = .ok (.iconst 2, 1) := by decide +kernel
theorem dK_556 : decode cL_law 556 = .ok (.iadd, 1) := by decide +kernel
theorem dK_557 : decode cL_law 557 = .ok (.iaload, 1) := by decide +kernel
theorem dK_558 : decode cL_law 558 = .ok (.aload_n 0, 1) := by decide +kernel
theorem dK_559 : decode cL_law 559 = .ok (.iload 4, 2) := by decide +kernel
theorem dK_561 : decode cL_law 561 = .ok (.iconst 3, 1) := by decide +kernel
theorem dK_562 : decode cL_law 562 = .ok (.iadd, 1) := by decide +kernel
theorem dK_563 : decode cL_law 563 = .ok (.iaload, 1) := by decide +kernel
theorem dK_564 : decode cL_law 564 = .ok (.aload_n 0, 1) := by decide +kernel
theorem dK_565 : decode cL_law 565 = .ok (.iload 4, 2) := by decide +kernel
theorem dK_567 : decode cL_law 567 = .ok (.iconst 4, 1) := by decide +kernel
theorem dK_568 : decode cL_law 568 = .ok (.iadd, 1) := by decide +kernel
theorem dK_569 : decode cL_law 569 = .ok (.iaload, 1) := by decide +kernel
theorem dK_570 : decode cL_law 570 = .ok (.invokevirtual 63, 3) := by decide +kernel
theorem dK_573 : decode cL_law 573 = .ok (.if_icmp .eq 1044, 3) := by decide +kernel
theorem dK_578 : decode cL_law 578 = .ok (.aload_n 1, 1) := by decide +kernel
theorem dK_579 : decode cL_law 579 = .ok (.aload_n 0, 1) := by decide +kernel
theorem dK_580 : decode cL_law 580 = .ok (.iload 4, 2) := by decide +kernel
theorem dK_582 : decode cL_law 582 = .ok (.iconst 1, 1) := by decide +kernel
theorem dK_583 : decode cL_law 583 = .ok (.iadd, 1) := by decide +kernel
theorem dK_584 : decode cL_law 584 = .ok (.iaload, 1) := by decide +kernel
theorem dK_585 : decode cL_law 585 = .ok (.aload_n 0, 1) := by decide +kernel
theorem dK_586 : decode cL_law 586 = .ok (.iload 4, 2) := by decide +kernel
theorem dK_588 : decode cL_law 588 = .ok (.iconst 2, 1) := by decide +kernel
theorem dK_589 : decode cL_law 589 = .ok (.iadd, 1) := by decide +kernel
theorem dK_590 : decode cL_law 590 = .ok (.iaload, 1) := by decide +kernel
theorem dK_591 : decode cL_law 591 = .ok (.invokevirtual 64, 3) := by decide +kernel
theorem dK_594 : decode cL_law 594 = .ok (.aload_n 2, 1) := by decide +kernel
theorem dK_595 : decode cL_law 595 = .ok (.aload_n 0, 1) := by decide +kernel
theorem dK_596 : decode cL_law 596 = .ok (.iload 4, 2) := by decide +kernel
theorem dK_598 : decode cL_law 598 = .ok (.iconst 1, 1) := by decide +kernel
theorem dK_599 : decode cL_law 599 = .ok (.iadd, 1) := by decide +kernel
theorem dK_600 : decode cL_law 600 = .ok (.iaload, 1) := by decide +kernel
theorem dK_601 : decode cL_law 601 = .ok (.aload_n 0, 1) := by decide +kernel
theorem dK_602 : decode cL_law 602 = .ok (.iload 4, 2) := by decide +kernel
theorem dK_604 : decode cL_law 604 = .ok (.iconst 2, 1) := by decide +kernel
theorem dK_605 : decode cL_law 605 = .ok (.iadd, 1) := by decide +kernel
theorem dK_606 : decode cL_law 606 = .ok (.iaload, 1) := by decide +kernel
theorem dK_607 : decode cL_law 607 = .ok (.invokevirtual 67, 3) := by decide +kernel
theorem dK_610 : decode cL_law 610 = .ok (.if_icmp .eq 1007, 3) := by decide +kernel
theorem dK_615 : decode cL_law 615 = .ok (.aload_n 1, 1) := by decide +kernel
theorem dK_616 : decode cL_law 616 = .ok (.aload_n 0, 1) := by decide +kernel
theorem dK_617 : decode cL_law 617 = .ok (.iload 4, 2) := by decide +kernel
theorem dK_619 : decode cL_law 619 = .ok (.iconst 1, 1) := by decide +kernel
theorem dK_620 : decode cL_law 620 = .ok (.iadd, 1) := by decide +kernel
theorem dK_621 : decode cL_law 621 = .ok (.iaload, 1) := by decide +kernel
theorem dK_622 : decode cL_law 622 = .ok (.aload_n 0, 1) := by decide +kernel
theorem dK_623 : decode cL_law 623 = .ok (.iload 4, 2) := by decide +kernel
theorem dK_625 : decode cL_law 625 = .ok (.iconst 2, 1) := by decide +kernel
theorem dK_626 : decode cL_law 626 = .ok (.iadd, 1) := by decide +kernel
theorem dK_627 : decode cL_law 627 = .ok (.iaload, 1) := by decide +kernel
theorem dK_628 : decode cL_law 628 = .ok (.aload_n 0, 1) := by decide +kernel
theorem dK_629 : decode cL_law 629 = .ok (.iload 4, 2) := by decide +kernel
theorem dK_631 : decode cL_law 631 = .ok (.iconst 3, 1) := by decide +kernel
theorem dK_632 : decode cL_law 632 = .ok (.iadd, 1) := by decide +kernel
theorem dK_633 : decode cL_law 633 = .ok (.iaload, 1) := by decide +kernel
theorem dK_634 : decode cL_law 634 = .ok (.invokevirtual 68, 3) := by decide +kernel
theorem dK_637 : decode cL_law 637 = .ok (.aload_n 2, 1) := by decide +kernel
theorem dK_638 : decode cL_law 638 = .ok (.aload_n 0, 1) := by decide +kernel
theorem dK_639 : decode cL_law 639 = .ok (.iload 4, 2) := by decide +kernel
theorem dK_641 : decode cL_law 641 = .ok (.iconst 1, 1) := by decide +kernel
theorem dK_642 : decode cL_law 642 = .ok (.iadd, 1) := by decide +kernel
theorem dK_643 : decode cL_law 643 = .ok (.iaload, 1) := by decide +kernel
theorem dK_644 : decode cL_law 644 = .ok (.aload_n 0, 1) := by decide +kernel
theorem dK_645 : decode cL_law 645 = .ok (.iload 4, 2) := by decide +kernel
theorem dK_647 : decode cL_law 647 = .ok (.iconst 2, 1) := by decide +kernel
theorem dK_648 : decode cL_law 648 = .ok (.iadd, 1) := by decide +kernel
theorem dK_649 : decode cL_law 649 = .ok (.iaload, 1) := by decide +kernel
theorem dK_650 : decode cL_law 650 = .ok (.aload_n 0, 1) := by decide +kernel
theorem dK_651 : decode cL_law 651 = .ok (.iload 4, 2) := by decide +kernel
theorem dK_653 : decode cL_law 653 = .ok (.iconst 3, 1) := by decide +kernel
theorem dK_654 : decode cL_law 654 = .ok (.iadd, 1) := by decide +kernel
theorem dK_655 : decode cL_law 655 = .ok (.iaload, 1) := by decide +kernel
theorem dK_656 : decode cL_law 656 = .ok (.invokevirtual 71, 3) := by decide +kernel
theorem dK_659 : decode cL_law 659 = .ok (.if_icmp .eq 958, 3) := by decide +kernel
theorem dK_732 : decode cL_law 732 = .ok (.aload_n 1, 1) := by decide +kernel
theorem dK_733 : decode cL_law 733 = .ok (.aload_n 0, 1) := by decide +kernel
theorem dK_734 : decode cL_law 734 = .ok (.iload 4, 2) := by decide +kernel
theorem dK_736 : decode cL_law 736 = .ok (.iconst 1, 1) := by decide +kernel
theorem dK_737 : decode cL_law 737 = .ok (.iadd, 1) := by decide +kernel
theorem dK_738 : decode cL_law 738 = .ok (.iaload, 1) := by decide +kernel
theorem dK_739 : decode cL_law 739 = .ok (.aload_n 0, 1) := by decide +kernel
theorem dK_740 : decode cL_law 740 = .ok (.iload 4, 2) := by decide +kernel
theorem dK_742 : decode cL_law 742 = .ok (.iconst 2, 1) := by decide +kernel
theorem dK_743 : decode cL_law 743 = .ok (.iadd, 1) := by decide +kernel
theorem dK_744 : decode cL_law 744 = .ok (.iaload, 1) := by decide +kernel
theorem dK_745 : decode cL_law 745 = .ok (.aload_n 0, 1) := by decide +kernel
theorem dK_746 : decode cL_law 746 = .ok (.iload 4, 2) := by decide +kernel
theorem dK_748 : decode cL_law 748 = .ok (.iconst 3, 1) := by decide +kernel
theorem dK_749 : decode cL_law 749 = .ok (.iadd, 1) := by decide +kernel
theorem dK_750 : decode cL_law 750 = .ok (.iaload, 1) := by decide +kernel
theorem dK_751 : decode cL_law 751 = .ok (.invokevirtual 81, 3) := by decide +kernel
theorem dK_754 : decode cL_law 754 = .ok (.aload_n 2, 1) := by decide +kernel
theorem dK_755 : decode cL_law 755 = .ok (.aload_n 0, 1) := by decide +kernel
theorem dK_756 : decode cL_law 756 = .ok (.iload 4, 2) := by decide +kernel
theorem dK_758 : decode cL_law 758 = .ok (.iconst 1, 1) := by decide +kernel
theorem dK_759 : decode cL_law 759 = .ok (.iadd, 1) := by decide +kernel
theorem dK_760 : decode cL_law 760 = .ok (.iaload, 1) := by decide +kernel
theorem dK_761 : decode cL_law 761 = .ok (.aload_n 0, 1) := by decide +kernel
theorem dK_762 : decode cL_law 762 = .ok (.iload 4, 2) := by decide +kernel
theorem dK_764 : decode cL_law 764 = .ok (.iconst 2, 1) := by decide +kernel
theorem dK_765 : decode cL_law 765 = .ok (.iadd, 1) := by decide +kernel
theorem dK_766 : decode cL_law 766 = .ok (.iaload, 1) := by decide +kernel
theorem dK_767 : decode cL_law 767 = .ok (.aload_n 0, 1) := by decide +kernel
theorem dK_768 : decode cL_law 768 = .ok (.iload 4, 2) := by decide +kernel
theorem dK_770 : decode cL_law 770 = .ok (.iconst 3, 1) := by decide +kernel
theorem dK_771 : decode cL_law 771 = .ok (.iadd, 1) := by decide +kernel
theorem dK_772 : decode cL_law 772 = .ok (.iaload, 1) := by decide +kernel
theorem dK_773 : decode cL_law 773 = .ok (.invokevirtual 84, 3) := by decide +kernel
theorem dK_776 : decode cL_law 776 = .ok (.if_icmp .eq 841, 3) := by decide +kernel
theorem dK_781 : decode cL_law 781 = .ok (.aload_n 1, 1) := by decide +kernel
theorem dK_782 : decode cL_law 782 = .ok (.aload_n 0, 1) := by decide +kernel
theorem dK_783 : decode cL_law 783 = .ok (.iload 4, 2) := by decide +kernel
theorem dK_785 : decode cL_law 785 = .ok (.iconst 1, 1) := by decide +kernel
theorem dK_786 : decode cL_law 786 = .ok (.iadd, 1) := by decide +kernel
theorem dK_787 : decode cL_law 787 = .ok (.iaload, 1) := by decide +kernel
theorem dK_788 : decode cL_law 788 = .ok (.invokevirtual 85, 3) := by decide +kernel
theorem dK_791 : decode cL_law 791 = .ok (.aload_n 2, 1) := by decide +kernel
theorem dK_792 : decode cL_law 792 = .ok (.aload_n 0, 1) := by decide +kernel
theorem dK_793 : decode cL_law 793 = .ok (.iload 4, 2) := by decide +kernel
theorem dK_795 : decode cL_law 795 = .ok (.iconst 1, 1) := by decide +kernel
theorem dK_796 : decode cL_law 796 = .ok (.iadd, 1) := by decide +kernel
theorem dK_797 : decode cL_law 797 = .ok (.iaload, 1) := by decide +kernel
theorem dK_798 : decode cL_law 798 = .ok (.invokevirtual 89, 3) := by decide +kernel
theorem dK_801 : decode cL_law 801 = .ok (.if_icmp .eq 816, 3) := by decide +kernel
theorem dK_806 : decode cL_law 806 = .ok (.aload_n 1, 1) := by decide +kernel
theorem dK_807 : decode cL_law 807 = .ok (.aload_n 0, 1) := by decide +kernel
theorem dK_808 : decode cL_law 808 = .ok (.iload 4, 2) := by decide +kernel
theorem dK_810 : decode cL_law 810 = .ok (.iconst 1, 1) := by decide +kernel
theorem dK_811 : decode cL_law 811 = .ok (.iadd, 1) := by decide +kernel
theorem dK_812 : decode cL_law 812 = .ok (.iaload, 1) := by decide +kernel
theorem dK_813 : decode cL_law 813 = .ok (.aload_n 0, 1) := by decide +kernel
theorem dK_814 : decode cL_law 814 = .ok (.iload 4, 2) := by decide +kernel
theorem dK_816 : decode cL_law 816 = .ok (.iconst 2, 1) := by decide +kernel
theorem dK_817 : decode cL_law 817 = .ok (.iadd, 1) := by decide +kernel
theorem dK_818 : decode cL_law 818 = .ok (.iaload, 1) := by decide +kernel
theorem dK_819 : decode cL_law 819 = .ok (.invokevirtual 90, 3) := by decide +kernel
theorem dK_822 : decode cL_law 822 = .ok (.aload_n 2, 1) := by decide +kernel
theorem dK_823 : decode cL_law 823 = .ok (.aload_n 0, 1) := by decide +kernel
theorem dK_824 : decode cL_law 824 = .ok (.iload 4, 2) := by decide +kernel
theorem dK_826 : decode cL_law 826 = .ok (.iconst 1, 1) := by decide +kernel
theorem dK_827 : decode cL_law 827 = .ok (.iadd, 1) := by decide +kernel
theorem dK_828 : decode cL_law 828 = .ok (.iaload, 1) := by decide +kernel
theorem dK_829 : decode cL_law 829 = .ok (.aload_n 0, 1) := by decide +kernel
theorem dK_830 : decode cL_law 830 = .ok (.iload 4, 2) := by decide +kernel
theorem dK_832 : decode cL_law 832 = .ok (.iconst 2, 1) := by decide +kernel
theorem dK_833 : decode cL_law 833 = .ok (.iadd, 1) := by decide +kernel
theorem dK_834 : decode cL_law 834 = .ok (.iaload, 1) := by decide +kernel
theorem dK_835 : decode cL_law 835 = .ok (.invokevirtual 93, 3) := by decide +kernel
theorem dK_838 : decode cL_law 838 = .ok (.if_icmp .eq 779, 3) := by decide +kernel
theorem dK_843 : decode cL_law 843 = .ok (.aload_n 1, 1) := by decide +kernel
theorem dK_844 : decode cL_law 844 = .ok (.aload_n 0, 1) := by decide +kernel
theorem dK_845 : decode cL_law 845 = .ok (.iload 4, 2) := by decide +kernel
theorem dK_847 : decode cL_law 847 = .ok (.iconst 1, 1) := by decide +kernel
theorem dK_848 : decode cL_law 848 = .ok (.iadd, 1) := by decide +kernel
theorem dK_849 : decode cL_law 849 = .ok (.iaload, 1) := by decide +kernel
theorem dK_850 : decode cL_law 850 = .ok (.invokevirtual 94, 3) := by decide +kernel
theorem dK_853 : decode cL_law 853 = .ok (.aload_n 2, 1) := by decide +kernel
theorem dK_854 : decode cL_law 854 = .ok (.aload_n 0, 1) := by decide +kernel
theorem dK_855 : decode cL_law 855 = .ok (.iload 4, 2) := by decide +kernel
theorem dK_857 : decode cL_law 857 = .ok (.iconst 1, 1) := by decide +kernel
theorem dK_858 : decode cL_law 858 = .ok (.iadd, 1) := by decide +kernel
theorem dK_859 : decode cL_law 859 = .ok (.iaload, 1) := by decide +kernel
theorem dK_860 : decode cL_law 860 = .ok (.invokevirtual 97, 3) := by decide +kernel
theorem dK_863 : decode cL_law 863 = .ok (.if_icmp .eq 754, 3) := by decide +kernel
theorem dK_868 : decode cL_law 868 = .ok (.aload_n 1, 1) := by decide +kernel
theorem dK_869 : decode cL_law 869 = .ok (.aload_n 0, 1) := by decide +kernel
theorem dK_870 : decode cL_law 870 = .ok (.iload 4, 2) := by decide +kernel
theorem dK_872 : decode cL_law 872 = .ok (.iconst 1, 1) := by decide +kernel
theorem dK_873 : decode cL_law 873 = .ok (.iadd, 1) := by decide +kernel
theorem dK_874 : decode cL_law 874 = .ok (.iaload, 1) := by decide +kernel
theorem dK_875 : decode cL_law 875 = .ok (.invokevirtual 98, 3) := by decide +kernel
theorem dK_878 : decode cL_law 878 = .ok (.aload_n 2, 1) := by decide +kernel
theorem dK_879 : decode cL_law 879 = .ok (.aload_n 0, 1) := by decide +kernel
theorem dK_880 : decode cL_law 880 = .ok (.iload 4, 2) := by decide +kernel
theorem dK_882 : decode cL_law 882 = .ok (.iconst 1, 1) := by decide +kernel
theorem dK_883 : decode cL_law 883 = .ok (.iadd, 1) := by decide +kernel
theorem dK_884 : decode cL_law 884 = .ok (.iaload, 1) := by decide +kernel
theorem dK_885 : decode cL_law 885 = .ok (.invokevirtual 101, 3) := by decide +kernel
theorem dK_888 : decode cL_law 888 = .ok (.if_icmp .eq 729, 3) := by decide +kernel
theorem dK_893 : decode cL_law 893 = .ok (.aload_n 1, 1) := by decide +kernel
theorem dK_894 : decode cL_law 894 = .ok (.aload_n 0, 1) := by decide +kernel
theorem dK_895 : decode cL_law 895 = .ok (.iload 4, 2) := by decide +kernel
theorem dK_897 : decode cL_law 897 = .ok (.iconst 1, 1) := by decide +kernel
theorem dK_898 : decode cL_law 898 = .ok (.iadd, 1) := by decide +kernel
theorem dK_899 : decode cL_law 899 = .ok (.iaload, 1) := by decide +kernel
theorem dK_900 : decode cL_law 900 = .ok (.aload_n 0, 1) := by decide +kernel
theorem dK_901 : decode cL_law 901 = .ok (.iload 4, 2) := by decide +kernel
theorem dK_903 : decode cL_law 903 = .ok (.iconst 2, 1) := by decide +kernel
theorem dK_904 : decode cL_law 904 = .ok (.iadd, 1) := by decide +kernel
theorem dK_905 : decode cL_law 905 = .ok (.iaload, 1) := by decide +kernel
theorem dK_906 : decode cL_law 906 = .ok (.invokevirtual 102, 3) := by decide +kernel
theorem dK_909 : decode cL_law 909 = .ok (.aload_n 2, 1) := by decide +kernel
theorem dK_910 : decode cL_law 910 = .ok (.aload_n 0, 1) := by decide +kernel
theorem dK_911 : decode cL_law 911 = .ok (.iload 4, 2) := by decide +kernel
theorem dK_913 : decode cL_law 913 = .ok (.iconst 1, 1) := by decide +kernel
theorem dK_914 : decode cL_law 914 = .ok (.iadd, 1) := by decide +kernel
theorem dK_915 : decode cL_law 915 = .ok (.iaload, 1) := by decide +kernel
theorem dK_916 : decode cL_law 916 = .ok (.aload_n 0, 1) := by decide +kernel
theorem dK_917 : decode cL_law 917 = .ok (.iload 4, 2) := by decide +kernel
theorem dK_919 : decode cL_law 919 = .ok (.iconst 2, 1) := by decide +kernel
theorem dK_920 : decode cL_law 920 = .ok (.iadd, 1) := by decide +kernel
theorem dK_921 : decode cL_law 921 = .ok (.iaload, 1) := by decide +kernel
theorem dK_922 : decode cL_law 922 = .ok (.invokevirtual 105, 3) := by decide +kernel
theorem dK_925 : decode cL_law 925 = .ok (.if_icmp .eq 692, 3) := by decide +kernel
theorem dK_930 : decode cL_law 930 = .ok (.aload_n 1, 1) := by decide +kernel
theorem dK_931 : decode cL_law 931 = .ok (.aload_n 0, 1) := by decide +kernel
theorem dK_932 : decode cL_law 932 = .ok (.iload 4, 2) := by decide +kernel
theorem dK_934 : decode cL_law 934 = .ok (.iconst 1, 1) := by decide +kernel
theorem dK_935 : decode cL_law 935 = .ok (.iadd, 1) := by decide +kernel
theorem dK_936 : decode cL_law 936 = .ok (.iaload, 1) := by decide +kernel
theorem dK_937 : decode cL_law 937 = .ok (.aload_n 0, 1) := by decide +kernel
theorem dK_938 : decode cL_law 938 = .ok (.iload 4, 2) := by decide +kernel
theorem dK_940 : decode cL_law 940 = .ok (.iconst 2, 1) := by decide +kernel
theorem dK_941 : decode cL_law 941 = .ok (.iadd, 1) := by decide +kernel
theorem dK_942 : decode cL_law 942 = .ok (.iaload, 1) := by decide +kernel
theorem dK_943 : decode cL_law 943 = .ok (.aload_n 0, 1) := by decide +kernel
theorem dK_944 : decode cL_law 944 = .ok (.iload 4, 2) := by decide +kernel
theorem dK_946 : decode cL_law 946 = .ok (.iconst 3, 1) := by decide +kernel
theorem dK_947 : decode cL_law 947 = .ok (.iadd, 1) := by decide +kernel
theorem dK_948 : decode cL_law 948 = .ok (.iaload, 1) := by decide +kernel
theorem dK_949 : decode cL_law 949 = .ok (.invokevirtual 106, 3) := by decide +kernel
theorem dK_952 : decode cL_law 952 = .ok (.aload_n 2, 1) := by decide +kernel
theorem dK_953 : decode cL_law 953 = .ok (.aload_n 0, 1) := by decide +kernel
theorem dK_954 : decode cL_law 954 = .ok (.iload 4, 2) := by decide +kernel
theorem dK_956 : decode cL_law 956 = .ok (.iconst 1, 1) := by decide +kernel
theorem dK_957 : decode cL_law 957 = .ok (.iadd, 1) := by decide +kernel
theorem dK_958 : decode cL_law 958 = .ok (.iaload, 1) := by decide +kernel
theorem dK_959 : decode cL_law 959 = .ok (.aload_n 0, 1) := by decide +kernel
theorem dK_960 : decode cL_law 960 = .ok (.iload 4, 2) := by decide +kernel
theorem dK_962 : decode cL_law 962 = .ok (.iconst 2, 1) := by decide +kernel
theorem dK_963 : decode cL_law 963 = .ok (.iadd, 1) := by decide +kernel
theorem dK_964 : decode cL_law 964 = .ok (.iaload, 1) := by decide +kernel
theorem dK_965 : decode cL_law 965 = .ok (.aload_n 0, 1) := by decide +kernel
theorem dK_966 : decode cL_law 966 = .ok (.iload 4, 2) := by decide +kernel
theorem dK_968 : decode cL_law 968 = .ok (.iconst 3, 1) := by decide +kernel
theorem dK_969 : decode cL_law 969 = .ok (.iadd, 1) := by decide +kernel
theorem dK_970 : decode cL_law 970 = .ok (.iaload, 1) := by decide +kernel
theorem dK_971 : decode cL_law 971 = .ok (.invokevirtual 109, 3) := by decide +kernel
theorem dK_974 : decode cL_law 974 = .ok (.if_icmp .eq 643, 3) := by decide +kernel
theorem dK_979 : decode cL_law 979 = .ok (.aload_n 1, 1) := by decide +kernel
theorem dK_980 : decode cL_law 980 = .ok (.aload_n 0, 1) := by decide +kernel
theorem dK_981 : decode cL_law 981 = .ok (.iload 4, 2) := by decide +kernel
theorem dK_983 : decode cL_law 983 = .ok (.iconst 1, 1) := by decide +kernel
theorem dK_984 : decode cL_law 984 = .ok (.iadd, 1) := by decide +kernel
theorem dK_985 : decode cL_law 985 = .ok (.iaload, 1) := by decide +kernel
theorem dK_986 : decode cL_law 986 = .ok (.invokevirtual 110, 3) := by decide +kernel
theorem dK_989 : decode cL_law 989 = .ok (.aload_n 2, 1) := by decide +kernel
theorem dK_990 : decode cL_law 990 = .ok (.aload_n 0, 1) := by decide +kernel
theorem dK_991 : decode cL_law 991 = .ok (.iload 4, 2) := by decide +kernel
theorem dK_993 : decode cL_law 993 = .ok (.iconst 1, 1) := by decide +kernel
theorem dK_994 : decode cL_law 994 = .ok (.iadd, 1) := by decide +kernel
theorem dK_995 : decode cL_law 995 = .ok (.iaload, 1) := by decide +kernel
theorem dK_996 : decode cL_law 996 = .ok (.invokevirtual 113, 3) := by decide +kernel
theorem dK_999 : decode cL_law 999 = .ok (.if_icmp .eq 618, 3) := by decide +kernel
theorem dK_1004 : decode cL_law 1004 = .ok (.aload_n 1, 1) := by decide +kernel
theorem dK_1005 : decode cL_law 1005 = .ok (.aload_n 0, 1) := by decide +kernel
theorem dK_1006 : decode cL_law 1006 = .ok (.iload 4, 2) := by decide +kernel
theorem dK_1008 : decode cL_law 1008 = .ok (.iconst 1, 1) := by decide +kernel
theorem dK_1009 : decode cL_law 1009 = .ok (.iadd, 1) := by decide +kernel
theorem dK_1010 : decode cL_law 1010 = .ok (.iaload, 1) := by decide +kernel
theorem dK_1011 : decode cL_law 1011 = .ok (.invokevirtual 114, 3) := by decide +kernel
theorem dK_1014 : decode cL_law 1014 = .ok (.aload_n 2, 1) := by decide +kernel
theorem dK_1015 : decode cL_law 1015 = .ok (.aload_n 0, 1) := by decide +kernel
theorem dK_1016 : decode cL_law 1016 = .ok (.iload 4, 2) := by decide +kernel
theorem dK_1018 : decode cL_law 1018 = .ok (.iconst 1, 1) := by decide +kernel
theorem dK_1019 : decode cL_law 1019 = .ok (.iadd, 1) := by decide +kernel
theorem dK_1020 : decode cL_law 1020 = .ok (.iaload, 1) := by decide +kernel
theorem dK_1021 : decode cL_law 1021 = .ok (.invokevirtual 117, 3) := by decide +kernel
theorem dK_1024 : decode cL_law 1024 = .ok (.if_icmp .eq 593, 3) := by decide +kernel
theorem dK_1029 : decode cL_law 1029 = .ok (.aload_n 1, 1) := by decide +kernel
theorem dK_1030 : decode cL_law 1030 = .ok (.aload_n 0, 1) := by decide +kernel
theorem dK_1031 : decode cL_law 1031 = .ok (.iload 4, 2) := by decide +kernel
theorem dK_1033 : decode cL_law 1033 = .ok (.iconst 1, 1) := by decide +kernel
theorem dK_1034 : decode cL_law 1034 = .ok (.iadd, 1) := by decide +kernel
theorem dK_1035 : decode cL_law 1035 = .ok (.iaload, 1) := by decide +kernel
theorem dK_1036 : decode cL_law 1036 = .ok (.aload_n 0, 1) := by decide +kernel
theorem dK_1037 : decode cL_law 1037 = .ok (.iload 4, 2) := by decide +kernel
theorem dK_1039 : decode cL_law 1039 = .ok (.iconst 2, 1) := by decide +kernel
theorem dK_1040 : decode cL_law 1040 = .ok (.iadd, 1) := by decide +kernel
theorem dK_1041 : decode cL_law 1041 = .ok (.iaload, 1) := by decide +kernel
theorem dK_1042 : decode cL_law 1042 = .ok (.invokevirtual 118, 3) := by decide +kernel
theorem dK_1045 : decode cL_law 1045 = .ok (.aload_n 2, 1) := by decide +kernel
theorem dK_1046 : decode cL_law 1046 = .ok (.aload_n 0, 1) := by decide +kernel
theorem dK_1047 : decode cL_law 1047 = .ok (.iload 4, 2) := by decide +kernel
theorem dK_1049 : decode cL_law 1049 = .ok (.iconst 1, 1) := by decide +kernel
theorem dK_1050 : decode cL_law 1050 = .ok (.iadd, 1) := by decide +kernel
theorem dK_1051 : decode cL_law 1051 = .ok (.iaload, 1) := by decide +kernel
theorem dK_1052 : decode cL_law 1052 = .ok (.aload_n 0, 1) := by decide +kernel
theorem dK_1053 : decode cL_law 1053 = .ok (.iload 4, 2) := by decide +kernel
theorem dK_1055 : decode cL_law 1055 = .ok (.iconst 2, 1) := by decide +kernel
theorem dK_1056 : decode cL_law 1056 = .ok (.iadd, 1) := by decide +kernel
theorem dK_1057 : decode cL_law 1057 = .ok (.iaload, 1) := by decide +kernel
theorem dK_1058 : decode cL_law 1058 = .ok (.invokevirtual 121, 3) := by decide +kernel
theorem dK_1061 : decode cL_law 1061 = .ok (.if_icmp .eq 556, 3) := by decide +kernel
theorem dK_1158 : decode cL_law 1158 = .ok (.aload_n 1, 1) := by decide +kernel
theorem dK_1159 : decode cL_law 1159 = .ok (.aload_n 0, 1) := by decide +kernel
theorem dK_1160 : decode cL_law 1160 = .ok (.iload 4, 2) := by decide +kernel
theorem dK_1162 : decode cL_law 1162 = .ok (.iconst 1, 1) := by decide +kernel
theorem dK_1163 : decode cL_law 1163 = .ok (.iadd, 1) := by decide +kernel
theorem dK_1164 : decode cL_law 1164 = .ok (.iaload, 1) := by decide +kernel
theorem dK_1165 : decode cL_law 1165 = .ok (.aload_n 0, 1) := by decide +kernel
theorem dK_1166 : decode cL_law 1166 = .ok (.iload 4, 2) := by decide +kernel
theorem dK_1168 : decode cL_law 1168 = .ok (.iconst 2, 1) := by decide +kernel
theorem dK_1169 : decode cL_law 1169 = .ok (.iadd, 1) := by decide +kernel
theorem dK_1170 : decode cL_law 1170 = .ok (.iaload, 1) := by decide +kernel
theorem dK_1171 : decode cL_law 1171 = .ok (.invokevirtual 126, 3) := by decide +kernel
theorem dK_1174 : decode cL_law 1174 = .ok (.aload_n 2, 1) := by decide +kernel
theorem dK_1175 : decode cL_law 1175 = .ok (.aload_n 0, 1) := by decide +kernel
theorem dK_1176 : decode cL_law 1176 = .ok (.iload 4, 2) := by decide +kernel
theorem dK_1178 : decode cL_law 1178 = .ok (.iconst 1, 1) := by decide +kernel
theorem dK_1179 : decode cL_law 1179 = .ok (.iadd, 1) := by decide +kernel
theorem dK_1180 : decode cL_law 1180 = .ok (.iaload, 1) := by decide +kernel
theorem dK_1181 : decode cL_law 1181 = .ok (.aload_n 0, 1) := by decide +kernel
theorem dK_1182 : decode cL_law 1182 = .ok (.iload 4, 2) := by decide +kernel
theorem dK_1184 : decode cL_law 1184 = .ok (.iconst 2, 1) := by decide +kernel
theorem dK_1185 : decode cL_law 1185 = .ok (.iadd, 1) := by decide +kernel
theorem dK_1186 : decode cL_law 1186 = .ok (.iaload, 1) := by decide +kernel
theorem dK_1187 : decode cL_law 1187 = .ok (.invokevirtual 129, 3) := by decide +kernel
theorem dK_1190 : decode cL_law 1190 = .ok (.if_icmp .eq 427, 3) := by decide +kernel
theorem dK_1195 : decode cL_law 1195 = .ok (.aload_n 1, 1) := by decide +kernel
theorem dK_1196 : decode cL_law 1196 = .ok (.aload_n 0, 1) := by decide +kernel
theorem dK_1197 : decode cL_law 1197 = .ok (.iload 4, 2) := by decide +kernel
theorem dK_1199 : decode cL_law 1199 = .ok (.iconst 1, 1) := by decide +kernel
theorem dK_1200 : decode cL_law 1200 = .ok (.iadd, 1) := by decide +kernel
theorem dK_1201 : decode cL_law 1201 = .ok (.iaload, 1) := by decide +kernel
theorem dK_1202 : decode cL_law 1202 = .ok (.aload_n 0, 1) := by decide +kernel
theorem dK_1203 : decode cL_law 1203 = .ok (.iload 4, 2) := by decide +kernel
theorem dK_1205 : decode cL_law 1205 = .ok (.iconst 2, 1) := by decide +kernel
theorem dK_1206 : decode cL_law 1206 = .ok (.iadd, 1) := by decide +kernel
theorem dK_1207 : decode cL_law 1207 = .ok (.iaload, 1) := by decide +kernel
theorem dK_1208 : decode cL_law 1208 = .ok (.aload_n 0, 1) := by decide +kernel
theorem dK_1209 : decode cL_law 1209 = .ok (.iload 4, 2) := by decide +kernel
theorem dK_1211 : decode cL_law 1211 = .ok (.iconst 3, 1) := by decide +kernel
theorem dK_1212 : decode cL_law 1212 = .ok (.iadd, 1) := by decide +kernel
theorem dK_1213 : decode cL_law 1213 = .ok (.iaload, 1) := by decide +kernel
theorem dK_1214 : decode cL_law 1214 = .ok (.aload_n 0, 1) := by decide +kernel
theorem dK_1215 : decode cL_law 1215 = .ok (.iload 4, 2) := by decide +kernel
theorem dK_1217 : decode cL_law 1217 = .ok (.iconst 4, 1) := by decide +kernel
theorem dK_1218 : decode cL_law 1218 = .ok (.iadd, 1) := by decide +kernel
theorem dK_1219 : decode cL_law 1219 = .ok (.iaload, 1) := by decide +kernel
theorem dK_1220 : decode cL_law 1220 = .ok (.invokevirtual 130, 3) := by decide +kernel
theorem dK_1223 : decode cL_law 1223 = .ok (.aload_n 2, 1) := by decide +kernel
theorem dK_1224 : decode cL_law 1224 = .ok (.aload_n 0, 1) := by decide +kernel
theorem dK_1225 : decode cL_law 1225 = .ok (.iload 4, 2) := by decide +kernel
theorem dK_1227 : decode cL_law 1227 = .ok (.iconst 1, 1) := by decide +kernel
theorem dK_1228 : decode cL_law 1228 = .ok (.iadd, 1) := by decide +kernel
theorem dK_1229 : decode cL_law 1229 = .ok (.iaload, 1) := by decide +kernel
theorem dK_1230 : decode cL_law 1230 = .ok (.aload_n 0, 1) := by decide +kernel
theorem dK_1231 : decode cL_law 1231 = .ok (.iload 4, 2) := by decide +kernel
theorem dK_1233 : decode cL_law 1233 = .ok (.iconst 2, 1) := by decide +kernel
theorem dK_1234 : decode cL_law 1234 = .ok (.iadd, 1) := by decide +kernel
theorem dK_1235 : decode cL_law 1235 = .ok (.iaload, 1) := by decide +kernel
theorem dK_1236 : decode cL_law 1236 = .ok (.aload_n 0, 1) := by decide +kernel
theorem dK_1237 : decode cL_law 1237 = .ok (.iload 4, 2) := by decide +kernel
theorem dK_1239 : decode cL_law 1239 = .ok (.iconst 3, 1) := by decide +kernel
theorem dK_1240 : decode cL_law 1240 = .ok (.iadd, 1) := by decide +kernel
theorem dK_1241 : decode cL_law 1241 = .ok (.iaload, 1) := by decide +kernel
theorem dK_1242 : decode cL_law 1242 = .ok (.aload_n 0, 1) := by decide +kernel
theorem dK_1243 : decode cL_law 1243 = .ok (.iload 4, 2) := by decide +kernel
theorem dK_1245 : decode cL_law 1245 = .ok (.iconst 4, 1) := by decide +kernel
theorem dK_1246 : decode cL_law 1246 = .ok (.iadd, 1) := by decide +kernel
theorem dK_1247 : decode cL_law 1247 = .ok (.iaload, 1) := by decide +kernel
theorem dK_1248 : decode cL_law 1248 = .ok (.invokevirtual 133, 3) := by decide +kernel
theorem dK_1251 : decode cL_law 1251 = .ok (.if_icmp .eq 366, 3) := by decide +kernel
theorem dK_1256 : decode cL_law 1256 = .ok (.aload_n 1, 1) := by decide +kernel
theorem dK_1257 : decode cL_law 1257 = .ok (.aload_n 0, 1) := by decide +kernel
theorem dK_1258 : decode cL_law 1258 = .ok (.iload 4, 2) := by decide +kernel
theorem dK_1260 : decode cL_law 1260 = .ok (.iconst 1, 1) := by decide +kernel
theorem dK_1261 : decode cL_law 1261 = .ok (.iadd, 1) := by decide +kernel
theorem dK_1262 : decode cL_law 1262 = .ok (.iaload, 1) := by decide +kernel
theorem dK_1263 : decode cL_law 1263 = .ok (.invokevirtual 134, 3) := by decide +kernel
theorem dK_1266 : decode cL_law 1266 = .ok (.aload_n 2, 1) := by decide +kernel
theorem dK_1267 : decode cL_law 1267 = .ok (.aload_n 0, 1) := by decide +kernel
theorem dK_1268 : decode cL_law 1268 = .ok (.iload 4, 2) := by decide +kernel
theorem dK_1270 : decode cL_law 1270 = .ok (.iconst 1, 1) := by decide +kernel
theorem dK_1271 : decode cL_law 1271 = .ok (.iadd, 1) := by decide +kernel
theorem dK_1272 : decode cL_law 1272 = .ok (.iaload, 1) := by decide +kernel
theorem dK_1273 : decode cL_law 1273 = .ok (.invokevirtual 137, 3) := by decide +kernel
theorem dK_1276 : decode cL_law 1276 = .ok (.if_icmp .eq 341, 3) := by decide +kernel
theorem dK_1334 : decode cL_law 1334 = .ok (.aload_n 1, 1) := by decide +kernel
theorem dK_1335 : decode cL_law 1335 = .ok (.aload_n 0, 1) := by decide +kernel
theorem dK_1336 : decode cL_law 1336 = .ok (.iload 4, 2) := by decide +kernel
theorem dK_1338 : decode cL_law 1338 = .ok (.iconst 1, 1) := by decide +kernel
theorem dK_1339 : decode cL_law 1339 = .ok (.iadd, 1) := by decide +kernel
theorem dK_1340 : decode cL_law 1340 = .ok (.iaload, 1) := by decide +kernel
theorem dK_1341 : decode cL_law 1341 = .ok (.invokevirtual 143, 3) := by decide +kernel
theorem dK_1344 : decode cL_law 1344 = .ok (.aload_n 2, 1) := by decide +kernel
theorem dK_1345 : decode cL_law 1345 = .ok (.aload_n 0, 1) := by decide +kernel
theorem dK_1346 : decode cL_law 1346 = .ok (.iload 4, 2) := by decide +kernel
theorem dK_1348 : decode cL_law 1348 = .ok (.iconst 1, 1) := by decide +kernel
theorem dK_1349 : decode cL_law 1349 = .ok (.iadd, 1) := by decide +kernel
theorem dK_1350 : decode cL_law 1350 = .ok (.iaload, 1) := by decide +kernel
theorem dK_1351 : decode cL_law 1351 = .ok (.invokevirtual 146, 3) := by decide +kernel
theorem dK_1354 : decode cL_law 1354 = .ok (.if_icmp .eq 263, 3) := by decide +kernel
theorem dK_1477 : decode cL_law 1477 = .ok (.aload_n 1, 1) := by decide +kernel
theorem dK_1478 : decode cL_law 1478 = .ok (.aload_n 0, 1) := by decide +kernel
theorem dK_1479 : decode cL_law 1479 = .ok (.iload 4, 2) := by decide +kernel
theorem dK_1481 : decode cL_law 1481 = .ok (.iconst 1, 1) := by decide +kernel
theorem dK_1482 : decode cL_law 1482 = .ok (.iadd, 1) := by decide +kernel
theorem dK_1483 : decode cL_law 1483 = .ok (.iaload, 1) := by decide +kernel
theorem dK_1484 : decode cL_law 1484 = .ok (.aload_n 0, 1) := by decide +kernel
theorem dK_1485 : decode cL_law 1485 = .ok (.iload 4, 2) := by decide +kernel
theorem dK_1487 : decode cL_law 1487 = .ok (.iconst 2, 1) := by decide +kernel
theorem dK_1488 : decode cL_law 1488 = .ok (.iadd, 1) := by decide +kernel
theorem dK_1489 : decode cL_law 1489 = .ok (.iaload, 1) := by decide +kernel
theorem dK_1490 : decode cL_law 1490 = .ok (.aload_n 0, 1) := by decide +kernel
theorem dK_1491 : decode cL_law 1491 = .ok (.iload 4, 2) := by decide +kernel
theorem dK_1493 : decode cL_law 1493 = .ok (.iconst 3, 1) := by decide +kernel
theorem dK_1494 : decode cL_law 1494 = .ok (.iadd, 1) := by decide +kernel
theorem dK_1495 : decode cL_law 1495 = .ok (.iaload, 1) := by decide +kernel
theorem dK_1496 : decode cL_law 1496 = .ok (.invokevirtual 151, 3) := by decide +kernel
theorem dK_1499 : decode cL_law 1499 = .ok (.aload_n 2, 1) := by decide +kernel
theorem dK_1500 : decode cL_law 1500 = .ok (.aload_n 0, 1) := by decide +kernel
theorem dK_1501 : decode cL_law 1501 = .ok (.iload 4, 2) := by decide +kernel
theorem dK_1503 : decode cL_law 1503 = .ok (.iconst 1, 1) := by decide +kernel
theorem dK_1504 : decode cL_law 1504 = .ok (.iadd, 1) := by decide +kernel
theorem dK_1505 : decode cL_law 1505 = .ok (.iaload, 1) := by decide +kernel
theorem dK_1506 : decode cL_law 1506 = .ok (.aload_n 0, 1) := by decide +kernel
theorem dK_1507 : decode cL_law 1507 = .ok (.iload 4, 2) := by decide +kernel
theorem dK_1509 : decode cL_law 1509 = .ok (.iconst 2, 1) := by decide +kernel
theorem dK_1510 : decode cL_law 1510 = .ok (.iadd, 1) := by decide +kernel
theorem dK_1511 : decode cL_law 1511 = .ok (.iaload, 1) := by decide +kernel
theorem dK_1512 : decode cL_law 1512 = .ok (.aload_n 0, 1) := by decide +kernel
theorem dK_1513 : decode cL_law 1513 = .ok (.iload 4, 2) := by decide +kernel
theorem dK_1515 : decode cL_law 1515 = .ok (.iconst 3, 1) := by decide +kernel
theorem dK_1516 : decode cL_law 1516 = .ok (.iadd, 1) := by decide +kernel
theorem dK_1517 : decode cL_law 1517 = .ok (.iaload, 1) := by decide +kernel
theorem dK_1518 : decode cL_law 1518 = .ok (.invokevirtual 154, 3) := by decide +kernel
theorem dK_1521 : decode cL_law 1521 = .ok (.if_icmp .eq 96, 3) := by decide +kernel
theorem dK_1526 : decode cL_law 1526 = .ok (.aload_n 1, 1) := by decide +kernel
theorem dK_1527 : decode cL_law 1527 = .ok (.invokevirtual 155, 3) := by decide +kernel
theorem dK_1530 : decode cL_law 1530 = .ok (.aload_n 2, 1) := by decide +kernel
theorem dK_1531 : decode cL_law 1531 = .ok (.invokevirtual 158, 3) := by decide +kernel
theorem dK_1534 : decode cL_law 1534 = .ok (.if_icmp .eq 83, 3) := by decide +kernel
theorem dK_1592 : decode cL_law 1592 = .ok (.aload_n 1, 1) := by decide +kernel
theorem dK_1593 : decode cL_law 1593 = .ok (.aload_n 0, 1) := by decide +kernel
theorem dK_1594 : decode cL_law 1594 = .ok (.iload 4, 2) := by decide +kernel
theorem dK_1596 : decode cL_law 1596 = .ok (.iconst 1, 1) := by decide +kernel
theorem dK_1597 : decode cL_law 1597 = .ok (.iadd, 1) := by decide +kernel
theorem dK_1598 : decode cL_law 1598 = .ok (.iaload, 1) := by decide +kernel
theorem dK_1599 : decode cL_law 1599 = .ok (.invokevirtual 163, 3) := by decide +kernel
theorem dK_1602 : decode cL_law 1602 = .ok (.aload_n 2, 1) := by decide +kernel
theorem dK_1603 : decode cL_law 1603 = .ok (.aload_n 0, 1) := by decide +kernel
theorem dK_1604 : decode cL_law 1604 = .ok (.iload 4, 2) := by decide +kernel
theorem dK_1606 : decode cL_law 1606 = .ok (.iconst 1, 1) := by decide +kernel
theorem dK_1607 : decode cL_law 1607 = .ok (.iadd, 1) := by decide +kernel
theorem dK_1608 : decode cL_law 1608 = .ok (.iaload, 1) := by decide +kernel
theorem dK_1609 : decode cL_law 1609 = .ok (.invokevirtual 166, 3) := by decide +kernel
theorem dK_1612 : decode cL_law 1612 = .ok (.if_icmp .eq 5, 3) := by decide +kernel
section LjKas
variable {p : Program} {l : Launch} {e : Env} {s : State} {m : MethodId} {below : List Frame} {meth : Method} {c : Code} {H : Heap} {locs : List Loc} {cells slots : Nat} {Q : State → Prop} {b : Nat}
variable {ls : Array Slot} {D : va_G} {tys : List (ClassId × FieldType)} {caC adC caR adR : Nat → Nat} {co ao L : Nat} {xs : Nat → Int32} {μ r0 : g_St} {ox : va_E}
theorem lj_k_land {i : Int32} (hx : p.tables.exec = Jvm.exec) (hb : c.code = cL_law) (hX : lj_X s b L xs) (C : lj_C p s m b c D tys caC adC caR adR co) (hce : cells ≤ 601024) (hsl : slots ≤ 7293034) (hi : ∀ k : Int32, 0 ≤ k → k ≤ 6 → vp_in (i + k) L) (hl : lv_has ls 7 [(4, .int i), (3, .ref ao), (2, .ref (adR 0)), (1, .ref (adC 0)), (0, .ref b)]) (hR : g_Rp gC D caC adC ((ao, ox) :: g_wW adR caR gR r0) (lj_A s) s.heap μ H locs) (hz : zi μ r0)
    (kk : ∀ (c1 r1 : g_St) (H1 : Heap) (locs1 : List Loc), zi c1 r1 → g_Rp gC D caC adC ((ao, ox) :: g_wW adR caR gR r1) (lj_A s) s.heap c1 H1 locs1 → W p l e room_1 s m #[Value.ref b] below meth c H1 locs1 cells slots Q (F0 m 1617 ls [])) :
    W p l e room_1 s m #[Value.ref b] below meth c H locs cells slots Q (F0 m 331 ls []) := by
  obtain ⟨x, c2, r2, hf, hm, hz2⟩ := zo_land (F := 5000) (by decide) hz 
  refine lv_aload_n hx hb dK_331 rfl (lv_at hl 3 rfl) ?_
  refine lj_cC (as := []) (st := []) (x := x) C hce hsl hl.1 hR dK_332 (g_in2 (List.mem_of_getElem? (i := 151) rfl) rfl) mv_X8_land mc_X8_land rfl rfl (Nat.le_of_ble_eq_true rfl) (Nat.le_of_ble_eq_true rfl) (Nat.le_of_ble_eq_true rfl) (co_oo_land 5000 _) hf rfl rfl (fun H locs hR => ?_)
  refine lv_aload_n hx hb dK_335 rfl (lv_at hl 2 rfl) ?_
  refine lj_cR (as := []) (st := [.int x]) (x := x) C hce hsl hl.1 hR dK_336 (g_in6 (List.mem_of_getElem? (i := 88) rfl) rfl) mv_X9_land mc_X9_land rfl rfl (Nat.le_of_ble_eq_true rfl) (Nat.le_of_ble_eq_true rfl) (Nat.le_of_ble_eq_true rfl) (co_mm_land 5000 _) hm rfl rfl (fun H locs hR => ?_)
  exact lj_same hx hb dK_339 (by decide) (kk _ _ H locs hz2 hR)
theorem lj_k_rule {i : Int32} (hx : p.tables.exec = Jvm.exec) (hb : c.code = cL_law) (hX : lj_X s b L xs) (C : lj_C p s m b c D tys caC adC caR adR co) (hce : cells ≤ 601024) (hsl : slots ≤ 7293034) (hi : ∀ k : Int32, 0 ≤ k → k ≤ 6 → vp_in (i + k) L) (hl : lv_has ls 7 [(4, .int i), (3, .ref ao), (2, .ref (adR 0)), (1, .ref (adC 0)), (0, .ref b)]) (hR : g_Rp gC D caC adC ((ao, ox) :: g_wW adR caR gR r0) (lj_A s) s.heap μ H locs) (hz : zi μ r0)
    (kk : ∀ (c1 r1 : g_St) (H1 : Heap) (locs1 : List Loc), zi c1 r1 → g_Rp gC D caC adC ((ao, ox) :: g_wW adR caR gR r1) (lj_A s) s.heap c1 H1 locs1 → W p l e room_1 s m #[Value.ref b] below meth c H1 locs1 cells slots Q (F0 m 1617 ls [])) :
    W p l e room_1 s m #[Value.ref b] below meth c H locs cells slots Q (F0 m 344 ls []) := by
  obtain ⟨x, c2, r2, hf, hm, hz2⟩ := zo_rule (F := 5000) (by decide) hz 
  refine lv_aload_n hx hb dK_344 rfl (lv_at hl 3 rfl) ?_
  refine lj_cC (as := []) (st := []) (x := x) C hce hsl hl.1 hR dK_345 (g_in3 (List.mem_of_getElem? (i := 82) rfl) rfl) mv_X8_rule mc_X8_rule rfl rfl (Nat.le_of_ble_eq_true rfl) (Nat.le_of_ble_eq_true rfl) (Nat.le_of_ble_eq_true rfl) (co_oo_rule 5000 _) hf rfl rfl (fun H locs hR => ?_)
  refine lv_aload_n hx hb dK_348 rfl (lv_at hl 2 rfl) ?_
  refine lj_cR (as := []) (st := [.int x]) (x := x) C hce hsl hl.1 hR dK_349 (g_in6 (List.mem_of_getElem? (i := 231) rfl) rfl) mv_X9_rule mc_X9_rule rfl rfl (Nat.le_of_ble_eq_true rfl) (Nat.le_of_ble_eq_true rfl) (Nat.le_of_ble_eq_true rfl) (co_mm_rule 5000 _) hm rfl rfl (fun H locs hR => ?_)
  exact lj_same hx hb dK_352 (by decide) (kk _ _ H locs hz2 hR)
theorem lj_k_way {i : Int32} (hx : p.tables.exec = Jvm.exec) (hb : c.code = cL_law) (hX : lj_X s b L xs) (C : lj_C p s m b c D tys caC adC caR adR co) (hce : cells ≤ 601024) (hsl : slots ≤ 7293034) (hi : ∀ k : Int32, 0 ≤ k → k ≤ 6 → vp_in (i + k) L) (hl : lv_has ls 7 [(4, .int i), (3, .ref ao), (2, .ref (adR 0)), (1, .ref (adC 0)), (0, .ref b)]) (hR : g_Rp gC D caC adC ((ao, ox) :: g_wW adR caR gR r0) (lj_A s) s.heap μ H locs) (hz : zi μ r0)
    (kk : ∀ (c1 r1 : g_St) (H1 : Heap) (locs1 : List Loc), zi c1 r1 → g_Rp gC D caC adC ((ao, ox) :: g_wW adR caR gR r1) (lj_A s) s.heap c1 H1 locs1 → W p l e room_1 s m #[Value.ref b] below meth c H1 locs1 cells slots Q (F0 m 1617 ls [])) :
    W p l e room_1 s m #[Value.ref b] below meth c H locs cells slots Q (F0 m 357 ls []) := by
  obtain ⟨x, r2, hf, hm, hz2⟩ := zo_way hz (xs (i + 1).toNatClampNeg) (xs (i + 2).toNatClampNeg)
  refine lv_aload_n hx hb dK_357 rfl (lv_at hl 3 rfl) ?_
  refine lj_arg (k := 1) (nk := 1) hx hb hX hR.2.2 4 0 hl rfl rfl (fun st k => lv_iconst (v := 1) hx hb dK_361 (by decide) k) (hi 1 (by decide) (by decide)) dK_358 dK_359 dK_362 dK_363 ?_
  refine lj_arg (k := 2) (nk := 1) hx hb hX hR.2.2 4 0 hl rfl rfl (fun st k => lv_iconst (v := 2) hx hb dK_367 (by decide) k) (hi 2 (by decide) (by decide)) dK_364 dK_365 dK_368 dK_369 ?_
  refine lj_cCx (as := [.int _, .int _]) (st := []) (x := x) C hce hsl hl.1 hR dK_370 (g_in3 (List.mem_of_getElem? (i := 121) rfl) rfl) mv_X8_way mc_X8_way rfl rfl (Nat.le_of_ble_eq_true rfl) (Nat.le_of_ble_eq_true rfl) (Nat.le_of_ble_eq_true rfl) (co_oo_way _ _ _) hf rfl rfl (fun H locs hR => ?_)
  refine lv_aload_n hx hb dK_373 rfl (lv_at hl 2 rfl) ?_
  refine lj_arg (k := 1) (nk := 1) hx hb hX hR.2.2 4 0 hl rfl rfl (fun st k => lv_iconst (v := 1) hx hb dK_377 (by decide) k) (hi 1 (by decide) (by decide)) dK_374 dK_375 dK_378 dK_379 ?_
  refine lj_arg (k := 2) (nk := 1) hx hb hX hR.2.2 4 0 hl rfl rfl (fun st k => lv_iconst (v := 2) hx hb dK_383 (by decide) k) (hi 2 (by decide) (by decide)) dK_380 dK_381 dK_384 dK_385 ?_
  refine lj_cR (as := [.int _, .int _]) (st := [.int x]) (x := x) C hce hsl hl.1 hR dK_386 (g_in6 (List.mem_of_getElem? (i := 199) rfl) rfl) mv_X9_way mc_X9_way rfl rfl (Nat.le_of_ble_eq_true rfl) (Nat.le_of_ble_eq_true rfl) (Nat.le_of_ble_eq_true rfl) (co_mm_way _ _ _) hm rfl rfl (fun H locs hR => ?_)
  exact lj_same hx hb dK_389 (by decide) (kk _ _ H locs hz2 hR)
theorem lj_k_good {i : Int32} (hx : p.tables.exec = Jvm.exec) (hb : c.code = cL_law) (hX : lj_X s b L xs) (C : lj_C p s m b c D tys caC adC caR adR co) (hce : cells ≤ 601024) (hsl : slots ≤ 7293034) (hi : ∀ k : Int32, 0 ≤ k → k ≤ 6 → vp_in (i + k) L) (hl : lv_has ls 7 [(4, .int i), (3, .ref ao), (2, .ref (adR 0)), (1, .ref (adC 0)), (0, .ref b)]) (hR : g_Rp gC D caC adC ((ao, ox) :: g_wW adR caR gR r0) (lj_A s) s.heap μ H locs) (hz : zi μ r0)
    (kk : ∀ (c1 r1 : g_St) (H1 : Heap) (locs1 : List Loc), zi c1 r1 → g_Rp gC D caC adC ((ao, ox) :: g_wW adR caR gR r1) (lj_A s) s.heap c1 H1 locs1 → W p l e room_1 s m #[Value.ref b] below meth c H1 locs1 cells slots Q (F0 m 1617 ls [])) :
    W p l e room_1 s m #[Value.ref b] below meth c H locs cells slots Q (F0 m 394 ls []) := by
  obtain ⟨x, r2, hf, hm, hz2⟩ := zo_goodq (F := 5000) (by decide) hz (xs (i + 1).toNatClampNeg) (xs (i + 2).toNatClampNeg)
  refine lv_aload_n hx hb dK_394 rfl (lv_at hl 3 rfl) ?_
  refine lj_arg (k := 1) (nk := 1) hx hb hX hR.2.2 4 0 hl rfl rfl (fun st k => lv_iconst (v := 1) hx hb dK_398 (by decide) k) (hi 1 (by decide) (by decide)) dK_395 dK_396 dK_399 dK_400 ?_
  refine lj_arg (k := 2) (nk := 1) hx hb hX hR.2.2 4 0 hl rfl rfl (fun st k => lv_iconst (v := 2) hx hb dK_404 (by decide) k) (hi 2 (by decide) (by decide)) dK_401 dK_402 dK_405 dK_406 ?_
  refine lj_cCx (as := [.int _, .int _]) (st := []) (x := x) C hce hsl hl.1 hR dK_407 (g_in3 (List.mem_of_getElem? (i := 129) rfl) rfl) mv_X8_good mc_X8_good rfl rfl (Nat.le_of_ble_eq_true rfl) (Nat.le_of_ble_eq_true rfl) (Nat.le_of_ble_eq_true rfl) (co_oo_good 5000 _ _ _) hf rfl rfl (fun H locs hR => ?_)
  refine lv_aload_n hx hb dK_410 rfl (lv_at hl 2 rfl) ?_
  refine lj_arg (k := 1) (nk := 1) hx hb hX hR.2.2 4 0 hl rfl rfl (fun st k => lv_iconst (v := 1) hx hb dK_414 (by decide) k) (hi 1 (by decide) (by decide)) dK_411 dK_412 dK_415 dK_416 ?_
  refine lj_arg (k := 2) (nk := 1) hx hb hX hR.2.2 4 0 hl rfl rfl (fun st k => lv_iconst (v := 2) hx hb dK_420 (by decide) k) (hi 2 (by decide) (by decide)) dK_417 dK_418 dK_421 dK_422 ?_
  refine lj_cR (as := [.int _, .int _]) (st := [.int x]) (x := x) C hce hsl hl.1 hR dK_423 (g_in6 (List.mem_of_getElem? (i := 211) rfl) rfl) mv_X9_good mc_X9_good rfl rfl (Nat.le_of_ble_eq_true rfl) (Nat.le_of_ble_eq_true rfl) (Nat.le_of_ble_eq_true rfl) (co_mm_good 5000 _ _ _) hm rfl rfl (fun H locs hR => ?_)
  exact lj_same hx hb dK_426 (by decide) (kk _ _ H locs hz2 hR)
theorem lj_k_worth {i : Int32} (hx : p.tables.exec = Jvm.exec) (hb : c.code = cL_law) (hX : lj_X s b L xs) (C : lj_C p s m b c D tys caC adC caR adR co) (hce : cells ≤ 601024) (hsl : slots ≤ 7293034) (hi : ∀ k : Int32, 0 ≤ k → k ≤ 6 → vp_in (i + k) L) (hl : lv_has ls 7 [(4, .int i), (3, .ref ao), (2, .ref (adR 0)), (1, .ref (adC 0)), (0, .ref b)]) (hR : g_Rp gC D caC adC ((ao, ox) :: g_wW adR caR gR r0) (lj_A s) s.heap μ H locs) (hz : zi μ r0)
    (kk : ∀ (c1 r1 : g_St) (H1 : Heap) (locs1 : List Loc), zi c1 r1 → g_Rp gC D caC adC ((ao, ox) :: g_wW adR caR gR r1) (lj_A s) s.heap c1 H1 locs1 → W p l e room_1 s m #[Value.ref b] below meth c H1 locs1 cells slots Q (F0 m 1617 ls [])) :
    W p l e room_1 s m #[Value.ref b] below meth c H locs cells slots Q (F0 m 431 ls []) := by
  obtain ⟨x, r2, hf, hm, hz2⟩ := zo_worth hz (xs (i + 1).toNatClampNeg) (xs (i + 2).toNatClampNeg) (xs (i + 3).toNatClampNeg)
  refine lv_aload_n hx hb dK_431 rfl (lv_at hl 3 rfl) ?_
  refine lj_arg (k := 1) (nk := 1) hx hb hX hR.2.2 4 0 hl rfl rfl (fun st k => lv_iconst (v := 1) hx hb dK_435 (by decide) k) (hi 1 (by decide) (by decide)) dK_432 dK_433 dK_436 dK_437 ?_
  refine lj_arg (k := 2) (nk := 1) hx hb hX hR.2.2 4 0 hl rfl rfl (fun st k => lv_iconst (v := 2) hx hb dK_441 (by decide) k) (hi 2 (by decide) (by decide)) dK_438 dK_439 dK_442 dK_443 ?_
  refine lj_arg (k := 3) (nk := 1) hx hb hX hR.2.2 4 0 hl rfl rfl (fun st k => lv_iconst (v := 3) hx hb dK_447 (by decide) k) (hi 3 (by decide) (by decide)) dK_444 dK_445 dK_448 dK_449 ?_
  refine lj_cCx (as := [.int _, .int _, .int _]) (st := []) (x := x) C hce hsl hl.1 hR dK_450 (g_in3 (List.mem_of_getElem? (i := 141) rfl) rfl) mv_X8_worth mc_X8_worth rfl rfl (Nat.le_of_ble_eq_true rfl) (Nat.le_of_ble_eq_true rfl) (Nat.le_of_ble_eq_true rfl) (co_oo_worth _ _ _ _) hf rfl rfl (fun H locs hR => ?_)
  refine lv_aload_n hx hb dK_453 rfl (lv_at hl 2 rfl) ?_
  refine lj_arg (k := 1) (nk := 1) hx hb hX hR.2.2 4 0 hl rfl rfl (fun st k => lv_iconst (v := 1) hx hb dK_457 (by decide) k) (hi 1 (by decide) (by decide)) dK_454 dK_455 dK_458 dK_459 ?_
  refine lj_arg (k := 2) (nk := 1) hx hb hX hR.2.2 4 0 hl rfl rfl (fun st k => lv_iconst (v := 2) hx hb dK_463 (by decide) k) (hi 2 (by decide) (by decide)) dK_460 dK_461 dK_464 dK_465 ?_
  refine lj_arg (k := 3) (nk := 1) hx hb hX hR.2.2 4 0 hl rfl rfl (fun st k => lv_iconst (v := 3) hx hb dK_469 (by decide) k) (hi 3 (by decide) (by decide)) dK_466 dK_467 dK_470 dK_471 ?_
  refine lj_cR (as := [.int _, .int _, .int _]) (st := [.int x]) (x := x) C hce hsl hl.1 hR dK_472 (g_in6 (List.mem_of_getElem? (i := 223) rfl) rfl) mv_X9_worth mc_X9_worth rfl rfl (Nat.le_of_ble_eq_true rfl) (Nat.le_of_ble_eq_true rfl) (Nat.le_of_ble_eq_true rfl) (co_mm_worth _ _ _ _) hm rfl rfl (fun H locs hR => ?_)
  exact lj_same hx hb dK_475 (by decide) (kk _ _ H locs hz2 hR)
theorem lj_k_person {i : Int32} (hx : p.tables.exec = Jvm.exec) (hb : c.code = cL_law) (hX : lj_X s b L xs) (C : lj_C p s m b c D tys caC adC caR adR co) (hce : cells ≤ 601024) (hsl : slots ≤ 7293034) (hi : ∀ k : Int32, 0 ≤ k → k ≤ 6 → vp_in (i + k) L) (hl : lv_has ls 7 [(4, .int i), (3, .ref ao), (2, .ref (adR 0)), (1, .ref (adC 0)), (0, .ref b)]) (hR : g_Rp gC D caC adC ((ao, ox) :: g_wW adR caR gR r0) (lj_A s) s.heap μ H locs) (hz : zi μ r0)
    (kk : ∀ (c1 r1 : g_St) (H1 : Heap) (locs1 : List Loc), zi c1 r1 → g_Rp gC D caC adC ((ao, ox) :: g_wW adR caR gR r1) (lj_A s) s.heap c1 H1 locs1 → W p l e room_1 s m #[Value.ref b] below meth c H1 locs1 cells slots Q (F0 m 1617 ls [])) :
    W p l e room_1 s m #[Value.ref b] below meth c H locs cells slots Q (F0 m 480 ls []) := by
  obtain ⟨x, r2, hf, hm, hz2⟩ := zo_personq (F := 5000) (by decide) hz (xs (i + 1).toNatClampNeg) (xs (i + 2).toNatClampNeg)
  refine lv_aload_n hx hb dK_480 rfl (lv_at hl 3 rfl) ?_
  refine lj_arg (k := 1) (nk := 1) hx hb hX hR.2.2 4 0 hl rfl rfl (fun st k => lv_iconst (v := 1) hx hb dK_484 (by decide) k) (hi 1 (by decide) (by decide)) dK_481 dK_482 dK_485 dK_486 ?_
  refine lj_arg (k := 2) (nk := 1) hx hb hX hR.2.2 4 0 hl rfl rfl (fun st k => lv_iconst (v := 2) hx hb dK_490 (by decide) k) (hi 2 (by decide) (by decide)) dK_487 dK_488 dK_491 dK_492 ?_
  refine lj_cCx (as := [.int _, .int _]) (st := []) (x := x) C hce hsl hl.1 hR dK_493 (g_in3 (List.mem_of_getElem? (i := 153) rfl) rfl) mv_X8_person mc_X8_person rfl rfl (Nat.le_of_ble_eq_true rfl) (Nat.le_of_ble_eq_true rfl) (Nat.le_of_ble_eq_true rfl) (co_oo_person 5000 _ _ _) hf rfl rfl (fun H locs hR => ?_)
  refine lv_aload_n hx hb dK_496 rfl (lv_at hl 2 rfl) ?_
  refine lj_arg (k := 1) (nk := 1) hx hb hX hR.2.2 4 0 hl rfl rfl (fun st k => lv_iconst (v := 1) hx hb dK_500 (by decide) k) (hi 1 (by decide) (by decide)) dK_497 dK_498 dK_501 dK_502 ?_
  refine lj_arg (k := 2) (nk := 1) hx hb hX hR.2.2 4 0 hl rfl rfl (fun st k => lv_iconst (v := 2) hx hb dK_506 (by decide) k) (hi 2 (by decide) (by decide)) dK_503 dK_504 dK_507 dK_508 ?_
  refine lj_cR (as := [.int _, .int _]) (st := [.int x]) (x := x) C hce hsl hl.1 hR dK_509 (g_in7 (List.mem_of_getElem? (i := 79) rfl) rfl) mv_X9_person mc_X9_person rfl rfl (Nat.le_of_ble_eq_true rfl) (Nat.le_of_ble_eq_true rfl) (Nat.le_of_ble_eq_true rfl) (co_mm_person 5000 _ _ _) hm rfl rfl (fun H locs hR => ?_)
  exact lj_same hx hb dK_512 (by decide) (kk _ _ H locs hz2 hR)
theorem lj_k_make {i : Int32} (hx : p.tables.exec = Jvm.exec) (hb : c.code = cL_law) (hX : lj_X s b L xs) (C : lj_C p s m b c D tys caC adC caR adR co) (hce : cells ≤ 601024) (hsl : slots ≤ 7293034) (hi : ∀ k : Int32, 0 ≤ k → k ≤ 6 → vp_in (i + k) L) (hl : lv_has ls 7 [(4, .int i), (3, .ref ao), (2, .ref (adR 0)), (1, .ref (adC 0)), (0, .ref b)]) (hR : g_Rp gC D caC adC ((ao, ox) :: g_wW adR caR gR r0) (lj_A s) s.heap μ H locs) (hz : zi μ r0)
    (kk : ∀ (c1 r1 : g_St) (H1 : Heap) (locs1 : List Loc), zi c1 r1 → g_Rp gC D caC adC ((ao, ox) :: g_wW adR caR gR r1) (lj_A s) s.heap c1 H1 locs1 → W p l e room_1 s m #[Value.ref b] below meth c H1 locs1 cells slots Q (F0 m 1617 ls [])) :
    W p l e room_1 s m #[Value.ref b] below meth c H locs cells slots Q (F0 m 517 ls []) := by
  obtain ⟨x, c2, r2, hf, hm, hz2⟩ := zo_make (F := 5000) (by decide) hz (xs (i + 1).toNatClampNeg) (xs (i + 2).toNatClampNeg) (xs (i + 3).toNatClampNeg) (xs (i + 4).toNatClampNeg)
  refine lv_aload_n hx hb dK_517 rfl (lv_at hl 3 rfl) ?_
  refine lj_arg (k := 1) (nk := 1) hx hb hX hR.2.2 4 0 hl rfl rfl (fun st k => lv_iconst (v := 1) hx hb dK_521 (by decide) k) (hi 1 (by decide) (by decide)) dK_518 dK_519 dK_522 dK_523 ?_
  refine lj_arg (k := 2) (nk := 1) hx hb hX hR.2.2 4 0 hl rfl rfl (fun st k => lv_iconst (v := 2) hx hb dK_527 (by decide) k) (hi 2 (by decide) (by decide)) dK_524 dK_525 dK_528 dK_529 ?_
  refine lj_arg (k := 3) (nk := 1) hx hb hX hR.2.2 4 0 hl rfl rfl (fun st k => lv_iconst (v := 3) hx hb dK_533 (by decide) k) (hi 3 (by decide) (by decide)) dK_530 dK_531 dK_534 dK_535 ?_
  refine lj_arg (k := 4) (nk := 1) hx hb hX hR.2.2 4 0 hl rfl rfl (fun st k => lv_iconst (v := 4) hx hb dK_539 (by decide) k) (hi 4 (by decide) (by decide)) dK_536 dK_537 dK_540 dK_541 ?_
  refine lj_cC (as := [.int _, .int _, .int _, .int _]) (st := []) (x := x) C hce hsl hl.1 hR dK_542 (g_in3 (List.mem_of_getElem? (i := 174) rfl) rfl) mv_X8_make mc_X8_make rfl rfl (Nat.le_of_ble_eq_true rfl) (Nat.le_of_ble_eq_true rfl) (Nat.le_of_ble_eq_true rfl) (co_oo_make 5000 _ _ _ _ _) hf rfl rfl (fun H locs hR => ?_)
  refine lv_aload_n hx hb dK_545 rfl (lv_at hl 2 rfl) ?_
  refine lj_arg (k := 1) (nk := 1) hx hb hX hR.2.2 4 0 hl rfl rfl (fun st k => lv_iconst (v := 1) hx hb dK_549 (by decide) k) (hi 1 (by decide) (by decide)) dK_546 dK_547 dK_550 dK_551 ?_
  refine lj_arg (k := 2) (nk := 1) hx hb hX hR.2.2 4 0 hl rfl rfl (fun st k => lv_iconst (v := 2) hx hb dK_555 (by decide) k) (hi 2 (by decide) (by decide)) dK_552 dK_553 dK_556 dK_557 ?_
  refine lj_arg (k := 3) (nk := 1) hx hb hX hR.2.2 4 0 hl rfl rfl (fun st k => lv_iconst (v := 3) hx hb dK_561 (by decide) k) (hi 3 (by decide) (by decide)) dK_558 dK_559 dK_562 dK_563 ?_
  refine lj_arg (k := 4) (nk := 1) hx hb hX hR.2.2 4 0 hl rfl rfl (fun st k => lv_iconst (v := 4) hx hb dK_567 (by decide) k) (hi 4 (by decide) (by decide)) dK_564 dK_565 dK_568 dK_569 ?_
  refine lj_cR (as := [.int _, .int _, .int _, .int _]) (st := [.int x]) (x := x) C hce hsl hl.1 hR dK_570 (g_in7 (List.mem_of_getElem? (i := 18) rfl) rfl) mv_X9_make mc_X9_make rfl rfl (Nat.le_of_ble_eq_true rfl) (Nat.le_of_ble_eq_true rfl) (Nat.le_of_ble_eq_true rfl) (co_mm_make 5000 _ _ _ _ _) hm rfl rfl (fun H locs hR => ?_)
  exact lj_same hx hb dK_573 (by decide) (kk _ _ H locs hz2 hR)
theorem lj_k_go {i : Int32} (hx : p.tables.exec = Jvm.exec) (hb : c.code = cL_law) (hX : lj_X s b L xs) (C : lj_C p s m b c D tys caC adC caR adR co) (hce : cells ≤ 601024) (hsl : slots ≤ 7293034) (hi : ∀ k : Int32, 0 ≤ k → k ≤ 6 → vp_in (i + k) L) (hl : lv_has ls 7 [(4, .int i), (3, .ref ao), (2, .ref (adR 0)), (1, .ref (adC 0)), (0, .ref b)]) (hR : g_Rp gC D caC adC ((ao, ox) :: g_wW adR caR gR r0) (lj_A s) s.heap μ H locs) (hz : zi μ r0)
    (kk : ∀ (c1 r1 : g_St) (H1 : Heap) (locs1 : List Loc), zi c1 r1 → g_Rp gC D caC adC ((ao, ox) :: g_wW adR caR gR r1) (lj_A s) s.heap c1 H1 locs1 → W p l e room_1 s m #[Value.ref b] below meth c H1 locs1 cells slots Q (F0 m 1617 ls [])) :
    W p l e room_1 s m #[Value.ref b] below meth c H locs cells slots Q (F0 m 578 ls []) := by
  obtain ⟨x, c2, r2, hf, hm, hz2⟩ := zo_go hz (xs (i + 1).toNatClampNeg) (xs (i + 2).toNatClampNeg)
  refine lv_aload_n hx hb dK_578 rfl (lv_at hl 3 rfl) ?_
  refine lj_arg (k := 1) (nk := 1) hx hb hX hR.2.2 4 0 hl rfl rfl (fun st k => lv_iconst (v := 1) hx hb dK_582 (by decide) k) (hi 1 (by decide) (by decide)) dK_579 dK_580 dK_583 dK_584 ?_
  refine lj_arg (k := 2) (nk := 1) hx hb hX hR.2.2 4 0 hl rfl rfl (fun st k => lv_iconst (v := 2) hx hb dK_588 (by decide) k) (hi 2 (by decide) (by decide)) dK_585 dK_586 dK_589 dK_590 ?_
  refine lj_cC (as := [.int _, .int _]) (st := []) (x := x) C hce hsl hl.1 hR dK_591 (g_in3 (List.mem_of_getElem? (i := 203) rfl) rfl) mv_X8_go mc_X8_go rfl rfl (Nat.le_of_ble_eq_true rfl) (Nat.le_of_ble_eq_true rfl) (Nat.le_of_ble_eq_true rfl) (co_oo_go _ _ _) hf rfl rfl (fun H locs hR => ?_)
  refine lv_aload_n hx hb dK_594 rfl (lv_at hl 2 rfl) ?_
  refine lj_arg (k := 1) (nk := 1) hx hb hX hR.2.2 4 0 hl rfl rfl (fun st k => lv_iconst (v := 1) hx hb dK_598 (by decide) k) (hi 1 (by decide) (by decide)) dK_595 dK_596 dK_599 dK_600 ?_
  refine lj_arg (k := 2) (nk := 1) hx hb hX hR.2.2 4 0 hl rfl rfl (fun st k => lv_iconst (v := 2) hx hb dK_604 (by decide) k) (hi 2 (by decide) (by decide)) dK_601 dK_602 dK_605 dK_606 ?_
  refine lj_cR (as := [.int _, .int _]) (st := [.int x]) (x := x) C hce hsl hl.1 hR dK_607 (g_in7 (List.mem_of_getElem? (i := 35) rfl) rfl) mv_X9_go mc_X9_go rfl rfl (Nat.le_of_ble_eq_true rfl) (Nat.le_of_ble_eq_true rfl) (Nat.le_of_ble_eq_true rfl) (co_mm_go _ _ _) hm rfl rfl (fun H locs hR => ?_)
  exact lj_same hx hb dK_610 (by decide) (kk _ _ H locs hz2 hR)
theorem lj_k_give {i : Int32} (hx : p.tables.exec = Jvm.exec) (hb : c.code = cL_law) (hX : lj_X s b L xs) (C : lj_C p s m b c D tys caC adC caR adR co) (hce : cells ≤ 601024) (hsl : slots ≤ 7293034) (hi : ∀ k : Int32, 0 ≤ k → k ≤ 6 → vp_in (i + k) L) (hl : lv_has ls 7 [(4, .int i), (3, .ref ao), (2, .ref (adR 0)), (1, .ref (adC 0)), (0, .ref b)]) (hR : g_Rp gC D caC adC ((ao, ox) :: g_wW adR caR gR r0) (lj_A s) s.heap μ H locs) (hz : zi μ r0)
    (kk : ∀ (c1 r1 : g_St) (H1 : Heap) (locs1 : List Loc), zi c1 r1 → g_Rp gC D caC adC ((ao, ox) :: g_wW adR caR gR r1) (lj_A s) s.heap c1 H1 locs1 → W p l e room_1 s m #[Value.ref b] below meth c H1 locs1 cells slots Q (F0 m 1617 ls [])) :
    W p l e room_1 s m #[Value.ref b] below meth c H locs cells slots Q (F0 m 615 ls []) := by
  obtain ⟨x, c2, r2, hf, hm, hz2⟩ := zo_give (F := 5000) (by decide) hz (xs (i + 1).toNatClampNeg) (xs (i + 2).toNatClampNeg) (xs (i + 3).toNatClampNeg)
  refine lv_aload_n hx hb dK_615 rfl (lv_at hl 3 rfl) ?_
  refine lj_arg (k := 1) (nk := 1) hx hb hX hR.2.2 4 0 hl rfl rfl (fun st k => lv_iconst (v := 1) hx hb dK_619 (by decide) k) (hi 1 (by decide) (by decide)) dK_616 dK_617 dK_620 dK_621 ?_
  refine lj_arg (k := 2) (nk := 1) hx hb hX hR.2.2 4 0 hl rfl rfl (fun st k => lv_iconst (v := 2) hx hb dK_625 (by decide) k) (hi 2 (by decide) (by decide)) dK_622 dK_623 dK_626 dK_627 ?_
  refine lj_arg (k := 3) (nk := 1) hx hb hX hR.2.2 4 0 hl rfl rfl (fun st k => lv_iconst (v := 3) hx hb dK_631 (by decide) k) (hi 3 (by decide) (by decide)) dK_628 dK_629 dK_632 dK_633 ?_
  refine lj_cC (as := [.int _, .int _, .int _]) (st := []) (x := x) C hce hsl hl.1 hR dK_634 (g_in3 (List.mem_of_getElem? (i := 207) rfl) rfl) mv_X8_give mc_X8_give rfl rfl (Nat.le_of_ble_eq_true rfl) (Nat.le_of_ble_eq_true rfl) (Nat.le_of_ble_eq_true rfl) (co_oo_give 5000 _ _ _ _) hf rfl rfl (fun H locs hR => ?_)
  refine lv_aload_n hx hb dK_637 rfl (lv_at hl 2 rfl) ?_
  refine lj_arg (k := 1) (nk := 1) hx hb hX hR.2.2 4 0 hl rfl rfl (fun st k => lv_iconst (v := 1) hx hb dK_641 (by decide) k) (hi 1 (by decide) (by decide)) dK_638 dK_639 dK_642 dK_643 ?_
  refine lj_arg (k := 2) (nk := 1) hx hb hX hR.2.2 4 0 hl rfl rfl (fun st k => lv_iconst (v := 2) hx hb dK_647 (by decide) k) (hi 2 (by decide) (by decide)) dK_644 dK_645 dK_648 dK_649 ?_
  refine lj_arg (k := 3) (nk := 1) hx hb hX hR.2.2 4 0 hl rfl rfl (fun st k => lv_iconst (v := 3) hx hb dK_653 (by decide) k) (hi 3 (by decide) (by decide)) dK_650 dK_651 dK_654 dK_655 ?_
  refine lj_cR (as := [.int _, .int _, .int _]) (st := [.int x]) (x := x) C hce hsl hl.1 hR dK_656 (g_in7 (List.mem_of_getElem? (i := 39) rfl) rfl) mv_X9_give mc_X9_give rfl rfl (Nat.le_of_ble_eq_true rfl) (Nat.le_of_ble_eq_true rfl) (Nat.le_of_ble_eq_true rfl) (co_mm_give 5000 _ _ _ _) hm rfl rfl (fun H locs hR => ?_)
  exact lj_same hx hb dK_659 (by decide) (kk _ _ H locs hz2 hR)
theorem lj_k_lawful {i : Int32} (hx : p.tables.exec = Jvm.exec) (hb : c.code = cL_law) (hX : lj_X s b L xs) (C : lj_C p s m b c D tys caC adC caR adR co) (hce : cells ≤ 601024) (hsl : slots ≤ 7293034) (hi : ∀ k : Int32, 0 ≤ k → k ≤ 6 → vp_in (i + k) L) (hl : lv_has ls 7 [(4, .int i), (3, .ref ao), (2, .ref (adR 0)), (1, .ref (adC 0)), (0, .ref b)]) (hR : g_Rp gC D caC adC ((ao, ox) :: g_wW adR caR gR r0) (lj_A s) s.heap μ H locs) (hz : zi μ r0)
    (kk : ∀ (c1 r1 : g_St) (H1 : Heap) (locs1 : List Loc), zi c1 r1 → g_Rp gC D caC adC ((ao, ox) :: g_wW adR caR gR r1) (lj_A s) s.heap c1 H1 locs1 → W p l e room_1 s m #[Value.ref b] below meth c H1 locs1 cells slots Q (F0 m 1617 ls [])) :
    W p l e room_1 s m #[Value.ref b] below meth c H locs cells slots Q (F0 m 732 ls []) := by
  obtain ⟨x, c2, r2, hf, hm, hz2⟩ := zo_lawful (F := 5000) (by decide) hz (xs (i + 1).toNatClampNeg) (xs (i + 2).toNatClampNeg) (xs (i + 3).toNatClampNeg)
  refine lv_aload_n hx hb dK_732 rfl (lv_at hl 3 rfl) ?_
  refine lj_arg (k := 1) (nk := 1) hx hb hX hR.2.2 4 0 hl rfl rfl (fun st k => lv_iconst (v := 1) hx hb dK_736 (by decide) k) (hi 1 (by decide) (by decide)) dK_733 dK_734 dK_737 dK_738 ?_
  refine lj_arg (k := 2) (nk := 1) hx hb hX hR.2.2 4 0 hl rfl rfl (fun st k => lv_iconst (v := 2) hx hb dK_742 (by decide) k) (hi 2 (by decide) (by decide)) dK_739 dK_740 dK_743 dK_744 ?_
  refine lj_arg (k := 3) (nk := 1) hx hb hX hR.2.2 4 0 hl rfl rfl (fun st k => lv_iconst (v := 3) hx hb dK_748 (by decide) k) (hi 3 (by decide) (by decide)) dK_745 dK_746 dK_749 dK_750 ?_
  refine lj_cC (as := [.int _, .int _, .int _]) (st := []) (x := x) C hce hsl hl.1 hR dK_751 (g_in4 (List.mem_of_getElem? (i := 6) rfl) rfl) mv_X8_lawful mc_X8_lawful rfl rfl (Nat.le_of_ble_eq_true rfl) (Nat.le_of_ble_eq_true rfl) (Nat.le_of_ble_eq_true rfl) (co_oo_lawful 5000 _ _ _ _) hf rfl rfl (fun H locs hR => ?_)
  refine lv_aload_n hx hb dK_754 rfl (lv_at hl 2 rfl) ?_
  refine lj_arg (k := 1) (nk := 1) hx hb hX hR.2.2 4 0 hl rfl rfl (fun st k => lv_iconst (v := 1) hx hb dK_758 (by decide) k) (hi 1 (by decide) (by decide)) dK_755 dK_756 dK_759 dK_760 ?_
  refine lj_arg (k := 2) (nk := 1) hx hb hX hR.2.2 4 0 hl rfl rfl (fun st k => lv_iconst (v := 2) hx hb dK_764 (by decide) k) (hi 2 (by decide) (by decide)) dK_761 dK_762 dK_765 dK_766 ?_
  refine lj_arg (k := 3) (nk := 1) hx hb hX hR.2.2 4 0 hl rfl rfl (fun st k => lv_iconst (v := 3) hx hb dK_770 (by decide) k) (hi 3 (by decide) (by decide)) dK_767 dK_768 dK_771 dK_772 ?_
  refine lj_cR (as := [.int _, .int _, .int _]) (st := [.int x]) (x := x) C hce hsl hl.1 hR dK_773 (g_in7 (List.mem_of_getElem? (i := 71) rfl) rfl) mv_X9_lawful mc_X9_lawful rfl rfl (Nat.le_of_ble_eq_true rfl) (Nat.le_of_ble_eq_true rfl) (Nat.le_of_ble_eq_true rfl) (co_mm_lawful 5000 _ _ _ _) hm rfl rfl (fun H locs hR => ?_)
  exact lj_same hx hb dK_776 (by decide) (kk _ _ H locs hz2 hR)
theorem lj_k_round {i : Int32} (hx : p.tables.exec = Jvm.exec) (hb : c.code = cL_law) (hX : lj_X s b L xs) (C : lj_C p s m b c D tys caC adC caR adR co) (hce : cells ≤ 601024) (hsl : slots ≤ 7293034) (hi : ∀ k : Int32, 0 ≤ k → k ≤ 6 → vp_in (i + k) L) (hl : lv_has ls 7 [(4, .int i), (3, .ref ao), (2, .ref (adR 0)), (1, .ref (adC 0)), (0, .ref b)]) (hR : g_Rp gC D caC adC ((ao, ox) :: g_wW adR caR gR r0) (lj_A s) s.heap μ H locs) (hz : zi μ r0)
    (kk : ∀ (c1 r1 : g_St) (H1 : Heap) (locs1 : List Loc), zi c1 r1 → g_Rp gC D caC adC ((ao, ox) :: g_wW adR caR gR r1) (lj_A s) s.heap c1 H1 locs1 → W p l e room_1 s m #[Value.ref b] below meth c H1 locs1 cells slots Q (F0 m 1617 ls [])) :
    W p l e room_1 s m #[Value.ref b] below meth c H locs cells slots Q (F0 m 781 ls []) := by
  obtain ⟨x, c2, r2, hf, hm, hz2⟩ := zo_round (F := 5000) (by decide) hz (xs (i + 1).toNatClampNeg)
  refine lv_aload_n hx hb dK_781 rfl (lv_at hl 3 rfl) ?_
  refine lj_arg (k := 1) (nk := 1) hx hb hX hR.2.2 4 0 hl rfl rfl (fun st k => lv_iconst (v := 1) hx hb dK_785 (by decide) k) (hi 1 (by decide) (by decide)) dK_782 dK_783 dK_786 dK_787 ?_
  refine lj_cC (as := [.int _]) (st := []) (x := x) C hce hsl hl.1 hR dK_788 (g_in4 (List.mem_of_getElem? (i := 14) rfl) rfl) mv_X8_round mc_X8_round rfl rfl (Nat.le_of_ble_eq_true rfl) (Nat.le_of_ble_eq_true rfl) (Nat.le_of_ble_eq_true rfl) (co_oo_round 5000 _ _) hf rfl rfl (fun H locs hR => ?_)
  refine lv_aload_n hx hb dK_791 rfl (lv_at hl 2 rfl) ?_
  refine lj_arg (k := 1) (nk := 1) hx hb hX hR.2.2 4 0 hl rfl rfl (fun st k => lv_iconst (v := 1) hx hb dK_795 (by decide) k) (hi 1 (by decide) (by decide)) dK_792 dK_793 dK_796 dK_797 ?_
  refine lj_cR (as := [.int _]) (st := [.int x]) (x := x) C hce hsl hl.1 hR dK_798 (g_in7 (List.mem_of_getElem? (i := 99) rfl) rfl) mv_X9_round mc_X9_round rfl rfl (Nat.le_of_ble_eq_true rfl) (Nat.le_of_ble_eq_true rfl) (Nat.le_of_ble_eq_true rfl) (co_mm_round 5000 _ _) hm rfl rfl (fun H locs hR => ?_)
  exact lj_same hx hb dK_801 (by decide) (kk _ _ H locs hz2 hR)
theorem lj_k_most {i : Int32} (hx : p.tables.exec = Jvm.exec) (hb : c.code = cL_law) (hX : lj_X s b L xs) (C : lj_C p s m b c D tys caC adC caR adR co) (hce : cells ≤ 601024) (hsl : slots ≤ 7293034) (hi : ∀ k : Int32, 0 ≤ k → k ≤ 6 → vp_in (i + k) L) (hl : lv_has ls 7 [(4, .int i), (3, .ref ao), (2, .ref (adR 0)), (1, .ref (adC 0)), (0, .ref b)]) (hR : g_Rp gC D caC adC ((ao, ox) :: g_wW adR caR gR r0) (lj_A s) s.heap μ H locs) (hz : zi μ r0)
    (kk : ∀ (c1 r1 : g_St) (H1 : Heap) (locs1 : List Loc), zi c1 r1 → g_Rp gC D caC adC ((ao, ox) :: g_wW adR caR gR r1) (lj_A s) s.heap c1 H1 locs1 → W p l e room_1 s m #[Value.ref b] below meth c H1 locs1 cells slots Q (F0 m 1617 ls [])) :
    W p l e room_1 s m #[Value.ref b] below meth c H locs cells slots Q (F0 m 806 ls []) := by
  obtain ⟨x, c2, r2, hf, hm, hz2⟩ := zo_most (F := 5000) (by decide) hz (xs (i + 1).toNatClampNeg) (xs (i + 2).toNatClampNeg)
  refine lv_aload_n hx hb dK_806 rfl (lv_at hl 3 rfl) ?_
  refine lj_arg (k := 1) (nk := 1) hx hb hX hR.2.2 4 0 hl rfl rfl (fun st k => lv_iconst (v := 1) hx hb dK_810 (by decide) k) (hi 1 (by decide) (by decide)) dK_807 dK_808 dK_811 dK_812 ?_
  refine lj_arg (k := 2) (nk := 1) hx hb hX hR.2.2 4 0 hl rfl rfl (fun st k => lv_iconst (v := 2) hx hb dK_816 (by decide) k) (hi 2 (by decide) (by decide)) dK_813 dK_814 dK_817 dK_818 ?_
  refine lj_cC (as := [.int _, .int _]) (st := []) (x := x) C hce hsl hl.1 hR dK_819 (g_in4 (List.mem_of_getElem? (i := 86) rfl) rfl) mv_X8_most mc_X8_most rfl rfl (Nat.le_of_ble_eq_true rfl) (Nat.le_of_ble_eq_true rfl) (Nat.le_of_ble_eq_true rfl) (co_oo_most 5000 _ _ _) hf rfl rfl (fun H locs hR => ?_)
  refine lv_aload_n hx hb dK_822 rfl (lv_at hl 2 rfl) ?_
  refine lj_arg (k := 1) (nk := 1) hx hb hX hR.2.2 4 0 hl rfl rfl (fun st k => lv_iconst (v := 1) hx hb dK_826 (by decide) k) (hi 1 (by decide) (by decide)) dK_823 dK_824 dK_827 dK_828 ?_
  refine lj_arg (k := 2) (nk := 1) hx hb hX hR.2.2 4 0 hl rfl rfl (fun st k => lv_iconst (v := 2) hx hb dK_832 (by decide) k) (hi 2 (by decide) (by decide)) dK_829 dK_830 dK_833 dK_834 ?_
  refine lj_cR (as := [.int _, .int _]) (st := [.int x]) (x := x) C hce hsl hl.1 hR dK_835 (g_in7 (List.mem_of_getElem? (i := 135) rfl) rfl) mv_X9_most mc_X9_most rfl rfl (Nat.le_of_ble_eq_true rfl) (Nat.le_of_ble_eq_true rfl) (Nat.le_of_ble_eq_true rfl) (co_mm_most 5000 _ _ _) hm rfl rfl (fun H locs hR => ?_)
  exact lj_same hx hb dK_838 (by decide) (kk _ _ H locs hz2 hR)
theorem lj_k_at {i : Int32} (hx : p.tables.exec = Jvm.exec) (hb : c.code = cL_law) (hX : lj_X s b L xs) (C : lj_C p s m b c D tys caC adC caR adR co) (hce : cells ≤ 601024) (hsl : slots ≤ 7293034) (hi : ∀ k : Int32, 0 ≤ k → k ≤ 6 → vp_in (i + k) L) (hl : lv_has ls 7 [(4, .int i), (3, .ref ao), (2, .ref (adR 0)), (1, .ref (adC 0)), (0, .ref b)]) (hR : g_Rp gC D caC adC ((ao, ox) :: g_wW adR caR gR r0) (lj_A s) s.heap μ H locs) (hz : zi μ r0)
    (kk : ∀ (c1 r1 : g_St) (H1 : Heap) (locs1 : List Loc), zi c1 r1 → g_Rp gC D caC adC ((ao, ox) :: g_wW adR caR gR r1) (lj_A s) s.heap c1 H1 locs1 → W p l e room_1 s m #[Value.ref b] below meth c H1 locs1 cells slots Q (F0 m 1617 ls [])) :
    W p l e room_1 s m #[Value.ref b] below meth c H locs cells slots Q (F0 m 843 ls []) := by
  obtain ⟨x, c2, r2, hf, hm, hz2⟩ := zo_at (F := 5000) (by decide) hz (xs (i + 1).toNatClampNeg)
  refine lv_aload_n hx hb dK_843 rfl (lv_at hl 3 rfl) ?_
  refine lj_arg (k := 1) (nk := 1) hx hb hX hR.2.2 4 0 hl rfl rfl (fun st k => lv_iconst (v := 1) hx hb dK_847 (by decide) k) (hi 1 (by decide) (by decide)) dK_844 dK_845 dK_848 dK_849 ?_
  refine lj_cC (as := [.int _]) (st := []) (x := x) C hce hsl hl.1 hR dK_850 (g_in4 (List.mem_of_getElem? (i := 90) rfl) rfl) mv_X8_at mc_X8_at rfl rfl (Nat.le_of_ble_eq_true rfl) (Nat.le_of_ble_eq_true rfl) (Nat.le_of_ble_eq_true rfl) (co_oo_at 5000 _ _) hf rfl rfl (fun H locs hR => ?_)
  refine lv_aload_n hx hb dK_853 rfl (lv_at hl 2 rfl) ?_
  refine lj_arg (k := 1) (nk := 1) hx hb hX hR.2.2 4 0 hl rfl rfl (fun st k => lv_iconst (v := 1) hx hb dK_857 (by decide) k) (hi 1 (by decide) (by decide)) dK_854 dK_855 dK_858 dK_859 ?_
  refine lj_cR (as := [.int _]) (st := [.int x]) (x := x) C hce hsl hl.1 hR dK_860 (g_in7 (List.mem_of_getElem? (i := 154) rfl) rfl) mv_X9_at mc_X9_at rfl rfl (Nat.le_of_ble_eq_true rfl) (Nat.le_of_ble_eq_true rfl) (Nat.le_of_ble_eq_true rfl) (co_mm_at 5000 _ _) hm rfl rfl (fun H locs hR => ?_)
  exact lj_same hx hb dK_863 (by decide) (kk _ _ H locs hz2 hR)
theorem lj_k_length {i : Int32} (hx : p.tables.exec = Jvm.exec) (hb : c.code = cL_law) (hX : lj_X s b L xs) (C : lj_C p s m b c D tys caC adC caR adR co) (hce : cells ≤ 601024) (hsl : slots ≤ 7293034) (hi : ∀ k : Int32, 0 ≤ k → k ≤ 6 → vp_in (i + k) L) (hl : lv_has ls 7 [(4, .int i), (3, .ref ao), (2, .ref (adR 0)), (1, .ref (adC 0)), (0, .ref b)]) (hR : g_Rp gC D caC adC ((ao, ox) :: g_wW adR caR gR r0) (lj_A s) s.heap μ H locs) (hz : zi μ r0)
    (kk : ∀ (c1 r1 : g_St) (H1 : Heap) (locs1 : List Loc), zi c1 r1 → g_Rp gC D caC adC ((ao, ox) :: g_wW adR caR gR r1) (lj_A s) s.heap c1 H1 locs1 → W p l e room_1 s m #[Value.ref b] below meth c H1 locs1 cells slots Q (F0 m 1617 ls [])) :
    W p l e room_1 s m #[Value.ref b] below meth c H locs cells slots Q (F0 m 868 ls []) := by
  obtain ⟨x, c2, r2, hf, hm, hz2⟩ := zo_length (F := 5000) (by decide) hz (xs (i + 1).toNatClampNeg)
  refine lv_aload_n hx hb dK_868 rfl (lv_at hl 3 rfl) ?_
  refine lj_arg (k := 1) (nk := 1) hx hb hX hR.2.2 4 0 hl rfl rfl (fun st k => lv_iconst (v := 1) hx hb dK_872 (by decide) k) (hi 1 (by decide) (by decide)) dK_869 dK_870 dK_873 dK_874 ?_
  refine lj_cC (as := [.int _]) (st := []) (x := x) C hce hsl hl.1 hR dK_875 (g_in4 (List.mem_of_getElem? (i := 94) rfl) rfl) mv_X8_length mc_X8_length rfl rfl (Nat.le_of_ble_eq_true rfl) (Nat.le_of_ble_eq_true rfl) (Nat.le_of_ble_eq_true rfl) (co_oo_length 5000 _ _) hf rfl rfl (fun H locs hR => ?_)
  refine lv_aload_n hx hb dK_878 rfl (lv_at hl 2 rfl) ?_
  refine lj_arg (k := 1) (nk := 1) hx hb hX hR.2.2 4 0 hl rfl rfl (fun st k => lv_iconst (v := 1) hx hb dK_882 (by decide) k) (hi 1 (by decide) (by decide)) dK_879 dK_880 dK_883 dK_884 ?_
  refine lj_cR (as := [.int _]) (st := [.int x]) (x := x) C hce hsl hl.1 hR dK_885 (g_in7 (List.mem_of_getElem? (i := 158) rfl) rfl) mv_X9_length mc_X9_length rfl rfl (Nat.le_of_ble_eq_true rfl) (Nat.le_of_ble_eq_true rfl) (Nat.le_of_ble_eq_true rfl) (co_mm_length 5000 _ _) hm rfl rfl (fun H locs hR => ?_)
  exact lj_same hx hb dK_888 (by decide) (kk _ _ H locs hz2 hR)
theorem lj_k_live {i : Int32} (hx : p.tables.exec = Jvm.exec) (hb : c.code = cL_law) (hX : lj_X s b L xs) (C : lj_C p s m b c D tys caC adC caR adR co) (hce : cells ≤ 601024) (hsl : slots ≤ 7293034) (hi : ∀ k : Int32, 0 ≤ k → k ≤ 6 → vp_in (i + k) L) (hl : lv_has ls 7 [(4, .int i), (3, .ref ao), (2, .ref (adR 0)), (1, .ref (adC 0)), (0, .ref b)]) (hR : g_Rp gC D caC adC ((ao, ox) :: g_wW adR caR gR r0) (lj_A s) s.heap μ H locs) (hz : zi μ r0)
    (kk : ∀ (c1 r1 : g_St) (H1 : Heap) (locs1 : List Loc), zi c1 r1 → g_Rp gC D caC adC ((ao, ox) :: g_wW adR caR gR r1) (lj_A s) s.heap c1 H1 locs1 → W p l e room_1 s m #[Value.ref b] below meth c H1 locs1 cells slots Q (F0 m 1617 ls [])) :
    W p l e room_1 s m #[Value.ref b] below meth c H locs cells slots Q (F0 m 893 ls []) := by
  obtain ⟨x, c2, r2, hf, hm, hz2⟩ := zo_live (F := 5000) (by decide) hz (xs (i + 1).toNatClampNeg) (xs (i + 2).toNatClampNeg)
  refine lv_aload_n hx hb dK_893 rfl (lv_at hl 3 rfl) ?_
  refine lj_arg (k := 1) (nk := 1) hx hb hX hR.2.2 4 0 hl rfl rfl (fun st k => lv_iconst (v := 1) hx hb dK_897 (by decide) k) (hi 1 (by decide) (by decide)) dK_894 dK_895 dK_898 dK_899 ?_
  refine lj_arg (k := 2) (nk := 1) hx hb hX hR.2.2 4 0 hl rfl rfl (fun st k => lv_iconst (v := 2) hx hb dK_903 (by decide) k) (hi 2 (by decide) (by decide)) dK_900 dK_901 dK_904 dK_905 ?_
  refine lj_cC (as := [.int _, .int _]) (st := []) (x := x) C hce hsl hl.1 hR dK_906 (g_in4 (List.mem_of_getElem? (i := 102) rfl) rfl) mv_X8_live mc_X8_live rfl rfl (Nat.le_of_ble_eq_true rfl) (Nat.le_of_ble_eq_true rfl) (Nat.le_of_ble_eq_true rfl) (co_oo_live 5000 _ _ _) hf rfl rfl (fun H locs hR => ?_)
  refine lv_aload_n hx hb dK_909 rfl (lv_at hl 2 rfl) ?_
  refine lj_arg (k := 1) (nk := 1) hx hb hX hR.2.2 4 0 hl rfl rfl (fun st k => lv_iconst (v := 1) hx hb dK_913 (by decide) k) (hi 1 (by decide) (by decide)) dK_910 dK_911 dK_914 dK_915 ?_
  refine lj_arg (k := 2) (nk := 1) hx hb hX hR.2.2 4 0 hl rfl rfl (fun st k => lv_iconst (v := 2) hx hb dK_919 (by decide) k) (hi 2 (by decide) (by decide)) dK_916 dK_917 dK_920 dK_921 ?_
  refine lj_cR (as := [.int _, .int _]) (st := [.int x]) (x := x) C hce hsl hl.1 hR dK_922 (g_in7 (List.mem_of_getElem? (i := 162) rfl) rfl) mv_X9_live mc_X9_live rfl rfl (Nat.le_of_ble_eq_true rfl) (Nat.le_of_ble_eq_true rfl) (Nat.le_of_ble_eq_true rfl) (co_mm_live 5000 _ _ _) hm rfl rfl (fun H locs hR => ?_)
  exact lj_same hx hb dK_925 (by decide) (kk _ _ H locs hz2 hR)
theorem lj_k_beside {i : Int32} (hx : p.tables.exec = Jvm.exec) (hb : c.code = cL_law) (hX : lj_X s b L xs) (C : lj_C p s m b c D tys caC adC caR adR co) (hce : cells ≤ 601024) (hsl : slots ≤ 7293034) (hi : ∀ k : Int32, 0 ≤ k → k ≤ 6 → vp_in (i + k) L) (hl : lv_has ls 7 [(4, .int i), (3, .ref ao), (2, .ref (adR 0)), (1, .ref (adC 0)), (0, .ref b)]) (hR : g_Rp gC D caC adC ((ao, ox) :: g_wW adR caR gR r0) (lj_A s) s.heap μ H locs) (hz : zi μ r0)
    (kk : ∀ (c1 r1 : g_St) (H1 : Heap) (locs1 : List Loc), zi c1 r1 → g_Rp gC D caC adC ((ao, ox) :: g_wW adR caR gR r1) (lj_A s) s.heap c1 H1 locs1 → W p l e room_1 s m #[Value.ref b] below meth c H1 locs1 cells slots Q (F0 m 1617 ls [])) :
    W p l e room_1 s m #[Value.ref b] below meth c H locs cells slots Q (F0 m 930 ls []) := by
  obtain ⟨x, c2, r2, hf, hm, hz2⟩ := zo_beside (F := 5000) (by decide) hz (xs (i + 1).toNatClampNeg) (xs (i + 2).toNatClampNeg) (xs (i + 3).toNatClampNeg)
  refine lv_aload_n hx hb dK_930 rfl (lv_at hl 3 rfl) ?_
  refine lj_arg (k := 1) (nk := 1) hx hb hX hR.2.2 4 0 hl rfl rfl (fun st k => lv_iconst (v := 1) hx hb dK_934 (by decide) k) (hi 1 (by decide) (by decide)) dK_931 dK_932 dK_935 dK_936 ?_
  refine lj_arg (k := 2) (nk := 1) hx hb hX hR.2.2 4 0 hl rfl rfl (fun st k => lv_iconst (v := 2) hx hb dK_940 (by decide) k) (hi 2 (by decide) (by decide)) dK_937 dK_938 dK_941 dK_942 ?_
  refine lj_arg (k := 3) (nk := 1) hx hb hX hR.2.2 4 0 hl rfl rfl (fun st k => lv_iconst (v := 3) hx hb dK_946 (by decide) k) (hi 3 (by decide) (by decide)) dK_943 dK_944 dK_947 dK_948 ?_
  refine lj_cC (as := [.int _, .int _, .int _]) (st := []) (x := x) C hce hsl hl.1 hR dK_949 (g_in4 (List.mem_of_getElem? (i := 125) rfl) rfl) mv_X8_beside mc_X8_beside rfl rfl (Nat.le_of_ble_eq_true rfl) (Nat.le_of_ble_eq_true rfl) (Nat.le_of_ble_eq_true rfl) (co_oo_beside 5000 _ _ _ _) hf rfl rfl (fun H locs hR => ?_)
  refine lv_aload_n hx hb dK_952 rfl (lv_at hl 2 rfl) ?_
  refine lj_arg (k := 1) (nk := 1) hx hb hX hR.2.2 4 0 hl rfl rfl (fun st k => lv_iconst (v := 1) hx hb dK_956 (by decide) k) (hi 1 (by decide) (by decide)) dK_953 dK_954 dK_957 dK_958 ?_
  refine lj_arg (k := 2) (nk := 1) hx hb hX hR.2.2 4 0 hl rfl rfl (fun st k => lv_iconst (v := 2) hx hb dK_962 (by decide) k) (hi 2 (by decide) (by decide)) dK_959 dK_960 dK_963 dK_964 ?_
  refine lj_arg (k := 3) (nk := 1) hx hb hX hR.2.2 4 0 hl rfl rfl (fun st k => lv_iconst (v := 3) hx hb dK_968 (by decide) k) (hi 3 (by decide) (by decide)) dK_965 dK_966 dK_969 dK_970 ?_
  refine lj_cR (as := [.int _, .int _, .int _]) (st := [.int x]) (x := x) C hce hsl hl.1 hR dK_971 (g_in7 (List.mem_of_getElem? (i := 174) rfl) rfl) mv_X9_beside mc_X9_beside rfl rfl (Nat.le_of_ble_eq_true rfl) (Nat.le_of_ble_eq_true rfl) (Nat.le_of_ble_eq_true rfl) (co_mm_beside 5000 _ _ _ _) hm rfl rfl (fun H locs hR => ?_)
  exact lj_same hx hb dK_974 (by decide) (kk _ _ H locs hz2 hR)
theorem lj_k_had {i : Int32} (hx : p.tables.exec = Jvm.exec) (hb : c.code = cL_law) (hX : lj_X s b L xs) (C : lj_C p s m b c D tys caC adC caR adR co) (hce : cells ≤ 601024) (hsl : slots ≤ 7293034) (hi : ∀ k : Int32, 0 ≤ k → k ≤ 6 → vp_in (i + k) L) (hl : lv_has ls 7 [(4, .int i), (3, .ref ao), (2, .ref (adR 0)), (1, .ref (adC 0)), (0, .ref b)]) (hR : g_Rp gC D caC adC ((ao, ox) :: g_wW adR caR gR r0) (lj_A s) s.heap μ H locs) (hz : zi μ r0)
    (kk : ∀ (c1 r1 : g_St) (H1 : Heap) (locs1 : List Loc), zi c1 r1 → g_Rp gC D caC adC ((ao, ox) :: g_wW adR caR gR r1) (lj_A s) s.heap c1 H1 locs1 → W p l e room_1 s m #[Value.ref b] below meth c H1 locs1 cells slots Q (F0 m 1617 ls [])) :
    W p l e room_1 s m #[Value.ref b] below meth c H locs cells slots Q (F0 m 979 ls []) := by
  obtain ⟨x, r2, hf, hm, hz2⟩ := zo_had (F := 5000) (by decide) hz (xs (i + 1).toNatClampNeg)
  refine lv_aload_n hx hb dK_979 rfl (lv_at hl 3 rfl) ?_
  refine lj_arg (k := 1) (nk := 1) hx hb hX hR.2.2 4 0 hl rfl rfl (fun st k => lv_iconst (v := 1) hx hb dK_983 (by decide) k) (hi 1 (by decide) (by decide)) dK_980 dK_981 dK_984 dK_985 ?_
  refine lj_cCx (as := [.int _]) (st := []) (x := x) C hce hsl hl.1 hR dK_986 (g_in4 (List.mem_of_getElem? (i := 133) rfl) rfl) mv_X8_had mc_X8_had rfl rfl (Nat.le_of_ble_eq_true rfl) (Nat.le_of_ble_eq_true rfl) (Nat.le_of_ble_eq_true rfl) (co_oo_had 5000 _ _) hf rfl rfl (fun H locs hR => ?_)
  refine lv_aload_n hx hb dK_989 rfl (lv_at hl 2 rfl) ?_
  refine lj_arg (k := 1) (nk := 1) hx hb hX hR.2.2 4 0 hl rfl rfl (fun st k => lv_iconst (v := 1) hx hb dK_993 (by decide) k) (hi 1 (by decide) (by decide)) dK_990 dK_991 dK_994 dK_995 ?_
  refine lj_cR (as := [.int _]) (st := [.int x]) (x := x) C hce hsl hl.1 hR dK_996 (g_in7 (List.mem_of_getElem? (i := 178) rfl) rfl) mv_X9_had mc_X9_had rfl rfl (Nat.le_of_ble_eq_true rfl) (Nat.le_of_ble_eq_true rfl) (Nat.le_of_ble_eq_true rfl) (co_mm_had 5000 _ _) hm rfl rfl (fun H locs hR => ?_)
  exact lj_same hx hb dK_999 (by decide) (kk _ _ H locs hz2 hR)
theorem lj_k_never {i : Int32} (hx : p.tables.exec = Jvm.exec) (hb : c.code = cL_law) (hX : lj_X s b L xs) (C : lj_C p s m b c D tys caC adC caR adR co) (hce : cells ≤ 601024) (hsl : slots ≤ 7293034) (hi : ∀ k : Int32, 0 ≤ k → k ≤ 6 → vp_in (i + k) L) (hl : lv_has ls 7 [(4, .int i), (3, .ref ao), (2, .ref (adR 0)), (1, .ref (adC 0)), (0, .ref b)]) (hR : g_Rp gC D caC adC ((ao, ox) :: g_wW adR caR gR r0) (lj_A s) s.heap μ H locs) (hz : zi μ r0)
    (kk : ∀ (c1 r1 : g_St) (H1 : Heap) (locs1 : List Loc), zi c1 r1 → g_Rp gC D caC adC ((ao, ox) :: g_wW adR caR gR r1) (lj_A s) s.heap c1 H1 locs1 → W p l e room_1 s m #[Value.ref b] below meth c H1 locs1 cells slots Q (F0 m 1617 ls [])) :
    W p l e room_1 s m #[Value.ref b] below meth c H locs cells slots Q (F0 m 1004 ls []) := by
  obtain ⟨x, r2, hf, hm, hz2⟩ := zo_never (F := 5000) (by decide) hz (xs (i + 1).toNatClampNeg)
  refine lv_aload_n hx hb dK_1004 rfl (lv_at hl 3 rfl) ?_
  refine lj_arg (k := 1) (nk := 1) hx hb hX hR.2.2 4 0 hl rfl rfl (fun st k => lv_iconst (v := 1) hx hb dK_1008 (by decide) k) (hi 1 (by decide) (by decide)) dK_1005 dK_1006 dK_1009 dK_1010 ?_
  refine lj_cCx (as := [.int _]) (st := []) (x := x) C hce hsl hl.1 hR dK_1011 (g_in4 (List.mem_of_getElem? (i := 142) rfl) rfl) mv_X8_never mc_X8_never rfl rfl (Nat.le_of_ble_eq_true rfl) (Nat.le_of_ble_eq_true rfl) (Nat.le_of_ble_eq_true rfl) (co_oo_never 5000 _ _) hf rfl rfl (fun H locs hR => ?_)
  refine lv_aload_n hx hb dK_1014 rfl (lv_at hl 2 rfl) ?_
  refine lj_arg (k := 1) (nk := 1) hx hb hX hR.2.2 4 0 hl rfl rfl (fun st k => lv_iconst (v := 1) hx hb dK_1018 (by decide) k) (hi 1 (by decide) (by decide)) dK_1015 dK_1016 dK_1019 dK_1020 ?_
  refine lj_cR (as := [.int _]) (st := [.int x]) (x := x) C hce hsl hl.1 hR dK_1021 (g_in7 (List.mem_of_getElem? (i := 186) rfl) rfl) mv_X9_never mc_X9_never rfl rfl (Nat.le_of_ble_eq_true rfl) (Nat.le_of_ble_eq_true rfl) (Nat.le_of_ble_eq_true rfl) (co_mm_never 5000 _ _) hm rfl rfl (fun H locs hR => ?_)
  exact lj_same hx hb dK_1024 (by decide) (kk _ _ H locs hz2 hR)
theorem lj_k_fewest {i : Int32} (hx : p.tables.exec = Jvm.exec) (hb : c.code = cL_law) (hX : lj_X s b L xs) (C : lj_C p s m b c D tys caC adC caR adR co) (hce : cells ≤ 601024) (hsl : slots ≤ 7293034) (hi : ∀ k : Int32, 0 ≤ k → k ≤ 6 → vp_in (i + k) L) (hl : lv_has ls 7 [(4, .int i), (3, .ref ao), (2, .ref (adR 0)), (1, .ref (adC 0)), (0, .ref b)]) (hR : g_Rp gC D caC adC ((ao, ox) :: g_wW adR caR gR r0) (lj_A s) s.heap μ H locs) (hz : zi μ r0)
    (kk : ∀ (c1 r1 : g_St) (H1 : Heap) (locs1 : List Loc), zi c1 r1 → g_Rp gC D caC adC ((ao, ox) :: g_wW adR caR gR r1) (lj_A s) s.heap c1 H1 locs1 → W p l e room_1 s m #[Value.ref b] below meth c H1 locs1 cells slots Q (F0 m 1617 ls [])) :
    W p l e room_1 s m #[Value.ref b] below meth c H locs cells slots Q (F0 m 1029 ls []) := by
  obtain ⟨x, r2, hf, hm, hz2⟩ := zo_fewest (F := 5000) (by decide) hz (xs (i + 1).toNatClampNeg) (xs (i + 2).toNatClampNeg)
  refine lv_aload_n hx hb dK_1029 rfl (lv_at hl 3 rfl) ?_
  refine lj_arg (k := 1) (nk := 1) hx hb hX hR.2.2 4 0 hl rfl rfl (fun st k => lv_iconst (v := 1) hx hb dK_1033 (by decide) k) (hi 1 (by decide) (by decide)) dK_1030 dK_1031 dK_1034 dK_1035 ?_
  refine lj_arg (k := 2) (nk := 1) hx hb hX hR.2.2 4 0 hl rfl rfl (fun st k => lv_iconst (v := 2) hx hb dK_1039 (by decide) k) (hi 2 (by decide) (by decide)) dK_1036 dK_1037 dK_1040 dK_1041 ?_
  refine lj_cCx (as := [.int _, .int _]) (st := []) (x := x) C hce hsl hl.1 hR dK_1042 (g_in4 (List.mem_of_getElem? (i := 151) rfl) rfl) mv_X8_fewest mc_X8_fewest rfl rfl (Nat.le_of_ble_eq_true rfl) (Nat.le_of_ble_eq_true rfl) (Nat.le_of_ble_eq_true rfl) (co_oo_fewest 5000 _ _ _) hf rfl rfl (fun H locs hR => ?_)
  refine lv_aload_n hx hb dK_1045 rfl (lv_at hl 2 rfl) ?_
  refine lj_arg (k := 1) (nk := 1) hx hb hX hR.2.2 4 0 hl rfl rfl (fun st k => lv_iconst (v := 1) hx hb dK_1049 (by decide) k) (hi 1 (by decide) (by decide)) dK_1046 dK_1047 dK_1050 dK_1051 ?_
  refine lj_arg (k := 2) (nk := 1) hx hb hX hR.2.2 4 0 hl rfl rfl (fun st k => lv_iconst (v := 2) hx hb dK_1055 (by decide) k) (hi 2 (by decide) (by decide)) dK_1052 dK_1053 dK_1056 dK_1057 ?_
  refine lj_cR (as := [.int _, .int _]) (st := [.int x]) (x := x) C hce hsl hl.1 hR dK_1058 (g_in7 (List.mem_of_getElem? (i := 194) rfl) rfl) mv_X9_fewest mc_X9_fewest rfl rfl (Nat.le_of_ble_eq_true rfl) (Nat.le_of_ble_eq_true rfl) (Nat.le_of_ble_eq_true rfl) (co_mm_fewest 5000 _ _ _) hm rfl rfl (fun H locs hR => ?_)
  exact lj_same hx hb dK_1061 (by decide) (kk _ _ H locs hz2 hR)
theorem lj_k_fairest {i : Int32} (hx : p.tables.exec = Jvm.exec) (hb : c.code = cL_law) (hX : lj_X s b L xs) (C : lj_C p s m b c D tys caC adC caR adR co) (hce : cells ≤ 601024) (hsl : slots ≤ 7293034) (hi : ∀ k : Int32, 0 ≤ k → k ≤ 6 → vp_in (i + k) L) (hl : lv_has ls 7 [(4, .int i), (3, .ref ao), (2, .ref (adR 0)), (1, .ref (adC 0)), (0, .ref b)]) (hR : g_Rp gC D caC adC ((ao, ox) :: g_wW adR caR gR r0) (lj_A s) s.heap μ H locs) (hz : zi μ r0)
    (kk : ∀ (c1 r1 : g_St) (H1 : Heap) (locs1 : List Loc), zi c1 r1 → g_Rp gC D caC adC ((ao, ox) :: g_wW adR caR gR r1) (lj_A s) s.heap c1 H1 locs1 → W p l e room_1 s m #[Value.ref b] below meth c H1 locs1 cells slots Q (F0 m 1617 ls [])) :
    W p l e room_1 s m #[Value.ref b] below meth c H locs cells slots Q (F0 m 1158 ls []) := by
  obtain ⟨x, c2, r2, hf, hm, hz2⟩ := zo_fairest (F := 5000) (by decide) hz (xs (i + 1).toNatClampNeg) (xs (i + 2).toNatClampNeg)
  refine lv_aload_n hx hb dK_1158 rfl (lv_at hl 3 rfl) ?_
  refine lj_arg (k := 1) (nk := 1) hx hb hX hR.2.2 4 0 hl rfl rfl (fun st k => lv_iconst (v := 1) hx hb dK_1162 (by decide) k) (hi 1 (by decide) (by decide)) dK_1159 dK_1160 dK_1163 dK_1164 ?_
  refine lj_arg (k := 2) (nk := 1) hx hb hX hR.2.2 4 0 hl rfl rfl (fun st k => lv_iconst (v := 2) hx hb dK_1168 (by decide) k) (hi 2 (by decide) (by decide)) dK_1165 dK_1166 dK_1169 dK_1170 ?_
  refine lj_cC (as := [.int _, .int _]) (st := []) (x := x) C hce hsl hl.1 hR dK_1171 (g_in4 (List.mem_of_getElem? (i := 156) rfl) rfl) mv_X8_fairest mc_X8_fairest rfl rfl (Nat.le_of_ble_eq_true rfl) (Nat.le_of_ble_eq_true rfl) (Nat.le_of_ble_eq_true rfl) (co_oo_fairest 5000 _ _ _) hf rfl rfl (fun H locs hR => ?_)
  refine lv_aload_n hx hb dK_1174 rfl (lv_at hl 2 rfl) ?_
  refine lj_arg (k := 1) (nk := 1) hx hb hX hR.2.2 4 0 hl rfl rfl (fun st k => lv_iconst (v := 1) hx hb dK_1178 (by decide) k) (hi 1 (by decide) (by decide)) dK_1175 dK_1176 dK_1179 dK_1180 ?_
  refine lj_arg (k := 2) (nk := 1) hx hb hX hR.2.2 4 0 hl rfl rfl (fun st k => lv_iconst (v := 2) hx hb dK_1184 (by decide) k) (hi 2 (by decide) (by decide)) dK_1181 dK_1182 dK_1185 dK_1186 ?_
  refine lj_cR (as := [.int _, .int _]) (st := [.int x]) (x := x) C hce hsl hl.1 hR dK_1187 (g_in7 (List.mem_of_getElem? (i := 206) rfl) rfl) mv_X9_fairest mc_X9_fairest rfl rfl (Nat.le_of_ble_eq_true rfl) (Nat.le_of_ble_eq_true rfl) (Nat.le_of_ble_eq_true rfl) (co_mm_fairest 5000 _ _ _) hm rfl rfl (fun H locs hR => ?_)
  exact lj_same hx hb dK_1190 (by decide) (kk _ _ H locs hz2 hR)
theorem lj_k_far {i : Int32} (hx : p.tables.exec = Jvm.exec) (hb : c.code = cL_law) (hX : lj_X s b L xs) (C : lj_C p s m b c D tys caC adC caR adR co) (hce : cells ≤ 601024) (hsl : slots ≤ 7293034) (hi : ∀ k : Int32, 0 ≤ k → k ≤ 6 → vp_in (i + k) L) (hl : lv_has ls 7 [(4, .int i), (3, .ref ao), (2, .ref (adR 0)), (1, .ref (adC 0)), (0, .ref b)]) (hR : g_Rp gC D caC adC ((ao, ox) :: g_wW adR caR gR r0) (lj_A s) s.heap μ H locs) (hz : zi μ r0)
    (kk : ∀ (c1 r1 : g_St) (H1 : Heap) (locs1 : List Loc), zi c1 r1 → g_Rp gC D caC adC ((ao, ox) :: g_wW adR caR gR r1) (lj_A s) s.heap c1 H1 locs1 → W p l e room_1 s m #[Value.ref b] below meth c H1 locs1 cells slots Q (F0 m 1617 ls [])) :
    W p l e room_1 s m #[Value.ref b] below meth c H locs cells slots Q (F0 m 1195 ls []) := by
  obtain ⟨x, r2, hf, hm, hz2⟩ := zo_far (F := 5000) (by decide) hz (xs (i + 1).toNatClampNeg) (xs (i + 2).toNatClampNeg) (xs (i + 3).toNatClampNeg) (xs (i + 4).toNatClampNeg)
  refine lv_aload_n hx hb dK_1195 rfl (lv_at hl 3 rfl) ?_
  refine lj_arg (k := 1) (nk := 1) hx hb hX hR.2.2 4 0 hl rfl rfl (fun st k => lv_iconst (v := 1) hx hb dK_1199 (by decide) k) (hi 1 (by decide) (by decide)) dK_1196 dK_1197 dK_1200 dK_1201 ?_
  refine lj_arg (k := 2) (nk := 1) hx hb hX hR.2.2 4 0 hl rfl rfl (fun st k => lv_iconst (v := 2) hx hb dK_1205 (by decide) k) (hi 2 (by decide) (by decide)) dK_1202 dK_1203 dK_1206 dK_1207 ?_
  refine lj_arg (k := 3) (nk := 1) hx hb hX hR.2.2 4 0 hl rfl rfl (fun st k => lv_iconst (v := 3) hx hb dK_1211 (by decide) k) (hi 3 (by decide) (by decide)) dK_1208 dK_1209 dK_1212 dK_1213 ?_
  refine lj_arg (k := 4) (nk := 1) hx hb hX hR.2.2 4 0 hl rfl rfl (fun st k => lv_iconst (v := 4) hx hb dK_1217 (by decide) k) (hi 4 (by decide) (by decide)) dK_1214 dK_1215 dK_1218 dK_1219 ?_
  refine lj_cCx (as := [.int _, .int _, .int _, .int _]) (st := []) (x := x) C hce hsl hl.1 hR dK_1220 (g_in4 (List.mem_of_getElem? (i := 179) rfl) rfl) mv_X8_far mc_X8_far rfl rfl (Nat.le_of_ble_eq_true rfl) (Nat.le_of_ble_eq_true rfl) (Nat.le_of_ble_eq_true rfl) (co_oo_far 5000 _ _ _ _ _) hf rfl rfl (fun H locs hR => ?_)
  refine lv_aload_n hx hb dK_1223 rfl (lv_at hl 2 rfl) ?_
  refine lj_arg (k := 1) (nk := 1) hx hb hX hR.2.2 4 0 hl rfl rfl (fun st k => lv_iconst (v := 1) hx hb dK_1227 (by decide) k) (hi 1 (by decide) (by decide)) dK_1224 dK_1225 dK_1228 dK_1229 ?_
  refine lj_arg (k := 2) (nk := 1) hx hb hX hR.2.2 4 0 hl rfl rfl (fun st k => lv_iconst (v := 2) hx hb dK_1233 (by decide) k) (hi 2 (by decide) (by decide)) dK_1230 dK_1231 dK_1234 dK_1235 ?_
  refine lj_arg (k := 3) (nk := 1) hx hb hX hR.2.2 4 0 hl rfl rfl (fun st k => lv_iconst (v := 3) hx hb dK_1239 (by decide) k) (hi 3 (by decide) (by decide)) dK_1236 dK_1237 dK_1240 dK_1241 ?_
  refine lj_arg (k := 4) (nk := 1) hx hb hX hR.2.2 4 0 hl rfl rfl (fun st k => lv_iconst (v := 4) hx hb dK_1245 (by decide) k) (hi 4 (by decide) (by decide)) dK_1242 dK_1243 dK_1246 dK_1247 ?_
  refine lj_cR (as := [.int _, .int _, .int _, .int _]) (st := [.int x]) (x := x) C hce hsl hl.1 hR dK_1248 (g_in7 (List.mem_of_getElem? (i := 210) rfl) rfl) mv_X9_far mc_X9_far rfl rfl (Nat.le_of_ble_eq_true rfl) (Nat.le_of_ble_eq_true rfl) (Nat.le_of_ble_eq_true rfl) (co_mm_far 5000 _ _ _ _ _) hm rfl rfl (fun H locs hR => ?_)
  exact lj_same hx hb dK_1251 (by decide) (kk _ _ H locs hz2 hR)
theorem lj_k_coin {i : Int32} (hx : p.tables.exec = Jvm.exec) (hb : c.code = cL_law) (hX : lj_X s b L xs) (C : lj_C p s m b c D tys caC adC caR adR co) (hce : cells ≤ 601024) (hsl : slots ≤ 7293034) (hi : ∀ k : Int32, 0 ≤ k → k ≤ 6 → vp_in (i + k) L) (hl : lv_has ls 7 [(4, .int i), (3, .ref ao), (2, .ref (adR 0)), (1, .ref (adC 0)), (0, .ref b)]) (hR : g_Rp gC D caC adC ((ao, ox) :: g_wW adR caR gR r0) (lj_A s) s.heap μ H locs) (hz : zi μ r0)
    (kk : ∀ (c1 r1 : g_St) (H1 : Heap) (locs1 : List Loc), zi c1 r1 → g_Rp gC D caC adC ((ao, ox) :: g_wW adR caR gR r1) (lj_A s) s.heap c1 H1 locs1 → W p l e room_1 s m #[Value.ref b] below meth c H1 locs1 cells slots Q (F0 m 1617 ls [])) :
    W p l e room_1 s m #[Value.ref b] below meth c H locs cells slots Q (F0 m 1256 ls []) := by
  obtain ⟨x, c2, r2, hf, hm, hz2⟩ := zo_coin (F := 5000) (by decide) hz (xs (i + 1).toNatClampNeg)
  refine lv_aload_n hx hb dK_1256 rfl (lv_at hl 3 rfl) ?_
  refine lj_arg (k := 1) (nk := 1) hx hb hX hR.2.2 4 0 hl rfl rfl (fun st k => lv_iconst (v := 1) hx hb dK_1260 (by decide) k) (hi 1 (by decide) (by decide)) dK_1257 dK_1258 dK_1261 dK_1262 ?_
  refine lj_cC (as := [.int _]) (st := []) (x := x) C hce hsl hl.1 hR dK_1263 (g_in4 (List.mem_of_getElem? (i := 189) rfl) rfl) mv_X8_coin mc_X8_coin rfl rfl (Nat.le_of_ble_eq_true rfl) (Nat.le_of_ble_eq_true rfl) (Nat.le_of_ble_eq_true rfl) (co_oo_coin 5000 _ _) hf rfl rfl (fun H locs hR => ?_)
  refine lv_aload_n hx hb dK_1266 rfl (lv_at hl 2 rfl) ?_
  refine lj_arg (k := 1) (nk := 1) hx hb hX hR.2.2 4 0 hl rfl rfl (fun st k => lv_iconst (v := 1) hx hb dK_1270 (by decide) k) (hi 1 (by decide) (by decide)) dK_1267 dK_1268 dK_1271 dK_1272 ?_
  refine lj_cR (as := [.int _]) (st := [.int x]) (x := x) C hce hsl hl.1 hR dK_1273 (g_in7 (List.mem_of_getElem? (i := 214) rfl) rfl) mv_X9_coin mc_X9_coin rfl rfl (Nat.le_of_ble_eq_true rfl) (Nat.le_of_ble_eq_true rfl) (Nat.le_of_ble_eq_true rfl) (co_mm_coin 5000 _ _) hm rfl rfl (fun H locs hR => ?_)
  exact lj_same hx hb dK_1276 (by decide) (kk _ _ H locs hz2 hR)
theorem lj_k_lift {i : Int32} (hx : p.tables.exec = Jvm.exec) (hb : c.code = cL_law) (hX : lj_X s b L xs) (C : lj_C p s m b c D tys caC adC caR adR co) (hce : cells ≤ 601024) (hsl : slots ≤ 7293034) (hi : ∀ k : Int32, 0 ≤ k → k ≤ 6 → vp_in (i + k) L) (hl : lv_has ls 7 [(4, .int i), (3, .ref ao), (2, .ref (adR 0)), (1, .ref (adC 0)), (0, .ref b)]) (hR : g_Rp gC D caC adC ((ao, ox) :: g_wW adR caR gR r0) (lj_A s) s.heap μ H locs) (hz : zi μ r0)
    (kk : ∀ (c1 r1 : g_St) (H1 : Heap) (locs1 : List Loc), zi c1 r1 → g_Rp gC D caC adC ((ao, ox) :: g_wW adR caR gR r1) (lj_A s) s.heap c1 H1 locs1 → W p l e room_1 s m #[Value.ref b] below meth c H1 locs1 cells slots Q (F0 m 1617 ls [])) :
    W p l e room_1 s m #[Value.ref b] below meth c H locs cells slots Q (F0 m 1334 ls []) := by
  obtain ⟨x, c2, r2, hf, hm, hz2⟩ := zo_lift (F := 5000) (by decide) hz (xs (i + 1).toNatClampNeg)
  refine lv_aload_n hx hb dK_1334 rfl (lv_at hl 3 rfl) ?_
  refine lj_arg (k := 1) (nk := 1) hx hb hX hR.2.2 4 0 hl rfl rfl (fun st k => lv_iconst (v := 1) hx hb dK_1338 (by decide) k) (hi 1 (by decide) (by decide)) dK_1335 dK_1336 dK_1339 dK_1340 ?_
  refine lj_cC (as := [.int _]) (st := []) (x := x) C hce hsl hl.1 hR dK_1341 (g_in4 (List.mem_of_getElem? (i := 206) rfl) rfl) mv_X8_lift mc_X8_lift rfl rfl (Nat.le_of_ble_eq_true rfl) (Nat.le_of_ble_eq_true rfl) (Nat.le_of_ble_eq_true rfl) (co_oo_lift 5000 _ _) hf rfl rfl (fun H locs hR => ?_)
  refine lv_aload_n hx hb dK_1344 rfl (lv_at hl 2 rfl) ?_
  refine lj_arg (k := 1) (nk := 1) hx hb hX hR.2.2 4 0 hl rfl rfl (fun st k => lv_iconst (v := 1) hx hb dK_1348 (by decide) k) (hi 1 (by decide) (by decide)) dK_1345 dK_1346 dK_1349 dK_1350 ?_
  refine lj_cR (as := [.int _]) (st := [.int x]) (x := x) C hce hsl hl.1 hR dK_1351 (g_in7 (List.mem_of_getElem? (i := 226) rfl) rfl) mv_X9_lift mc_X9_lift rfl rfl (Nat.le_of_ble_eq_true rfl) (Nat.le_of_ble_eq_true rfl) (Nat.le_of_ble_eq_true rfl) (co_mm_lift 5000 _ _) hm rfl rfl (fun H locs hR => ?_)
  exact lj_same hx hb dK_1354 (by decide) (kk _ _ H locs hz2 hR)
theorem lj_k_years {i : Int32} (hx : p.tables.exec = Jvm.exec) (hb : c.code = cL_law) (hX : lj_X s b L xs) (C : lj_C p s m b c D tys caC adC caR adR co) (hce : cells ≤ 601024) (hsl : slots ≤ 7293034) (hi : ∀ k : Int32, 0 ≤ k → k ≤ 6 → vp_in (i + k) L) (hl : lv_has ls 7 [(4, .int i), (3, .ref ao), (2, .ref (adR 0)), (1, .ref (adC 0)), (0, .ref b)]) (hR : g_Rp gC D caC adC ((ao, ox) :: g_wW adR caR gR r0) (lj_A s) s.heap μ H locs) (hz : zi μ r0)
    (kk : ∀ (c1 r1 : g_St) (H1 : Heap) (locs1 : List Loc), zi c1 r1 → g_Rp gC D caC adC ((ao, ox) :: g_wW adR caR gR r1) (lj_A s) s.heap c1 H1 locs1 → W p l e room_1 s m #[Value.ref b] below meth c H1 locs1 cells slots Q (F0 m 1617 ls [])) :
    W p l e room_1 s m #[Value.ref b] below meth c H locs cells slots Q (F0 m 1477 ls []) := by
  obtain ⟨x, c2, r2, hf, hm, hz2⟩ := zo_years (F := 5000) (by decide) hz (xs (i + 1).toNatClampNeg) (xs (i + 2).toNatClampNeg) (xs (i + 3).toNatClampNeg)
  refine lv_aload_n hx hb dK_1477 rfl (lv_at hl 3 rfl) ?_
  refine lj_arg (k := 1) (nk := 1) hx hb hX hR.2.2 4 0 hl rfl rfl (fun st k => lv_iconst (v := 1) hx hb dK_1481 (by decide) k) (hi 1 (by decide) (by decide)) dK_1478 dK_1479 dK_1482 dK_1483 ?_
  refine lj_arg (k := 2) (nk := 1) hx hb hX hR.2.2 4 0 hl rfl rfl (fun st k => lv_iconst (v := 2) hx hb dK_1487 (by decide) k) (hi 2 (by decide) (by decide)) dK_1484 dK_1485 dK_1488 dK_1489 ?_
  refine lj_arg (k := 3) (nk := 1) hx hb hX hR.2.2 4 0 hl rfl rfl (fun st k => lv_iconst (v := 3) hx hb dK_1493 (by decide) k) (hi 3 (by decide) (by decide)) dK_1490 dK_1491 dK_1494 dK_1495 ?_
  refine lj_cC (as := [.int _, .int _, .int _]) (st := []) (x := x) C hce hsl hl.1 hR dK_1496 (g_in4 (List.mem_of_getElem? (i := 214) rfl) rfl) mv_X8_years mc_X8_years rfl rfl (Nat.le_of_ble_eq_true rfl) (Nat.le_of_ble_eq_true rfl) (Nat.le_of_ble_eq_true rfl) (co_oo_years 5000 _ _ _ _) hf rfl rfl (fun H locs hR => ?_)
  refine lv_aload_n hx hb dK_1499 rfl (lv_at hl 2 rfl) ?_
  refine lj_arg (k := 1) (nk := 1) hx hb hX hR.2.2 4 0 hl rfl rfl (fun st k => lv_iconst (v := 1) hx hb dK_1503 (by decide) k) (hi 1 (by decide) (by decide)) dK_1500 dK_1501 dK_1504 dK_1505 ?_
  refine lj_arg (k := 2) (nk := 1) hx hb hX hR.2.2 4 0 hl rfl rfl (fun st k => lv_iconst (v := 2) hx hb dK_1509 (by decide) k) (hi 2 (by decide) (by decide)) dK_1506 dK_1507 dK_1510 dK_1511 ?_
  refine lj_arg (k := 3) (nk := 1) hx hb hX hR.2.2 4 0 hl rfl rfl (fun st k => lv_iconst (v := 3) hx hb dK_1515 (by decide) k) (hi 3 (by decide) (by decide)) dK_1512 dK_1513 dK_1516 dK_1517 ?_
  refine lj_cR (as := [.int _, .int _, .int _]) (st := [.int x]) (x := x) C hce hsl hl.1 hR dK_1518 (g_in7 (List.mem_of_getElem? (i := 238) rfl) rfl) mv_X9_years mc_X9_years rfl rfl (Nat.le_of_ble_eq_true rfl) (Nat.le_of_ble_eq_true rfl) (Nat.le_of_ble_eq_true rfl) (co_mm_years 5000 _ _ _ _) hm rfl rfl (fun H locs hR => ?_)
  exact lj_same hx hb dK_1521 (by decide) (kk _ _ H locs hz2 hR)
theorem lj_k_visited {i : Int32} (hx : p.tables.exec = Jvm.exec) (hb : c.code = cL_law) (hX : lj_X s b L xs) (C : lj_C p s m b c D tys caC adC caR adR co) (hce : cells ≤ 601024) (hsl : slots ≤ 7293034) (hi : ∀ k : Int32, 0 ≤ k → k ≤ 6 → vp_in (i + k) L) (hl : lv_has ls 7 [(4, .int i), (3, .ref ao), (2, .ref (adR 0)), (1, .ref (adC 0)), (0, .ref b)]) (hR : g_Rp gC D caC adC ((ao, ox) :: g_wW adR caR gR r0) (lj_A s) s.heap μ H locs) (hz : zi μ r0)
    (kk : ∀ (c1 r1 : g_St) (H1 : Heap) (locs1 : List Loc), zi c1 r1 → g_Rp gC D caC adC ((ao, ox) :: g_wW adR caR gR r1) (lj_A s) s.heap c1 H1 locs1 → W p l e room_1 s m #[Value.ref b] below meth c H1 locs1 cells slots Q (F0 m 1617 ls [])) :
    W p l e room_1 s m #[Value.ref b] below meth c H locs cells slots Q (F0 m 1526 ls []) := by
  obtain ⟨x, c2, r2, hf, hm, hz2⟩ := zo_visited (F := 5000) (by decide) hz 
  refine lv_aload_n hx hb dK_1526 rfl (lv_at hl 3 rfl) ?_
  refine lj_cC (as := []) (st := []) (x := x) C hce hsl hl.1 hR dK_1527 (g_in4 (List.mem_of_getElem? (i := 237) rfl) rfl) mv_X8_visited mc_X8_visited rfl rfl (Nat.le_of_ble_eq_true rfl) (Nat.le_of_ble_eq_true rfl) (Nat.le_of_ble_eq_true rfl) (co_oo_visited 5000 _) hf rfl rfl (fun H locs hR => ?_)
  refine lv_aload_n hx hb dK_1530 rfl (lv_at hl 2 rfl) ?_
  refine lj_cR (as := []) (st := [.int x]) (x := x) C hce hsl hl.1 hR dK_1531 (g_in8 (List.mem_of_getElem? (i := 14) rfl) rfl) mv_X9_visited mc_X9_visited rfl rfl (Nat.le_of_ble_eq_true rfl) (Nat.le_of_ble_eq_true rfl) (Nat.le_of_ble_eq_true rfl) (co_mm_visited 5000 _) hm rfl rfl (fun H locs hR => ?_)
  exact lj_same hx hb dK_1534 (by decide) (kk _ _ H locs hz2 hR)
theorem lj_k_count {i : Int32} (hx : p.tables.exec = Jvm.exec) (hb : c.code = cL_law) (hX : lj_X s b L xs) (C : lj_C p s m b c D tys caC adC caR adR co) (hce : cells ≤ 601024) (hsl : slots ≤ 7293034) (hi : ∀ k : Int32, 0 ≤ k → k ≤ 6 → vp_in (i + k) L) (hl : lv_has ls 7 [(4, .int i), (3, .ref ao), (2, .ref (adR 0)), (1, .ref (adC 0)), (0, .ref b)]) (hR : g_Rp gC D caC adC ((ao, ox) :: g_wW adR caR gR r0) (lj_A s) s.heap μ H locs) (hz : zi μ r0)
    (kk : ∀ (c1 r1 : g_St) (H1 : Heap) (locs1 : List Loc), zi c1 r1 → g_Rp gC D caC adC ((ao, ox) :: g_wW adR caR gR r1) (lj_A s) s.heap c1 H1 locs1 → W p l e room_1 s m #[Value.ref b] below meth c H1 locs1 cells slots Q (F0 m 1617 ls [])) :
    W p l e room_1 s m #[Value.ref b] below meth c H locs cells slots Q (F0 m 1592 ls []) := by
  obtain ⟨x, r2, hf, hm, hz2⟩ := zo_count (F := 5000) (by decide) hz (xs (i + 1).toNatClampNeg)
  refine lv_aload_n hx hb dK_1592 rfl (lv_at hl 3 rfl) ?_
  refine lj_arg (k := 1) (nk := 1) hx hb hX hR.2.2 4 0 hl rfl rfl (fun st k => lv_iconst (v := 1) hx hb dK_1596 (by decide) k) (hi 1 (by decide) (by decide)) dK_1593 dK_1594 dK_1597 dK_1598 ?_
  refine lj_cCx (as := [.int _]) (st := []) (x := x) C hce hsl hl.1 hR dK_1599 (g_in5 (List.mem_of_getElem? (i := 16) rfl) rfl) mv_X8_count mc_X8_count rfl rfl (Nat.le_of_ble_eq_true rfl) (Nat.le_of_ble_eq_true rfl) (Nat.le_of_ble_eq_true rfl) (co_oo_count 5000 _ _) hf rfl rfl (fun H locs hR => ?_)
  refine lv_aload_n hx hb dK_1602 rfl (lv_at hl 2 rfl) ?_
  refine lj_arg (k := 1) (nk := 1) hx hb hX hR.2.2 4 0 hl rfl rfl (fun st k => lv_iconst (v := 1) hx hb dK_1606 (by decide) k) (hi 1 (by decide) (by decide)) dK_1603 dK_1604 dK_1607 dK_1608 ?_
  refine lj_cR (as := [.int _]) (st := [.int x]) (x := x) C hce hsl hl.1 hR dK_1609 (g_in8 (List.mem_of_getElem? (i := 26) rfl) rfl) mv_X9_count mc_X9_count rfl rfl (Nat.le_of_ble_eq_true rfl) (Nat.le_of_ble_eq_true rfl) (Nat.le_of_ble_eq_true rfl) (co_mm_count 5000 _ _) hm rfl rfl (fun H locs hR => ?_)
  exact lj_same hx hb dK_1612 (by decide) (kk _ _ H locs hz2 hR)
end LjKas
