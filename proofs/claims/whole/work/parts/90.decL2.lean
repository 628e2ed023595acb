theorem d_Law_law_399 : decode code 399 = .ok (.iconst 0, 1) := by decide +kernel
theorem d_Law_law_400 : decode code 400 = .ok (.ireturn, 1) := by decide +kernel
theorem d_Law_law_401 : decode code 401 = .ok (.aload_n 1, 1) := by decide +kernel
theorem d_Law_law_402 : decode code 402 = .ok (.aload_n 0, 1) := by decide +kernel
theorem d_Law_law_403 : decode code 403 = .ok (.iload 4, 2) := by decide +kernel
theorem d_Law_law_405 : decode code 405 = .ok (.iconst 1, 1) := by decide +kernel
theorem d_Law_law_406 : decode code 406 = .ok (.iadd, 1) := by decide +kernel
theorem d_Law_law_407 : decode code 407 = .ok (.iaload, 1) := by decide +kernel
theorem d_Law_law_408 : decode code 408 = .ok (.aload_n 0, 1) := by decide +kernel
theorem d_Law_law_409 : decode code 409 = .ok (.iload 4, 2) := by decide +kernel
theorem d_Law_law_411 : decode code 411 = .ok (.iconst 2, 1) := by decide +kernel
theorem d_Law_law_412 : decode code 412 = .ok (.iadd, 1) := by decide +kernel
theorem d_Law_law_413 : decode code 413 = .ok (.iaload, 1) := by decide +kernel
theorem d_Law_law_414 : decode code 414 = .ok (.invokevirtual 65, 3) := by decide +kernel
theorem d_Law_law_417 : decode code 417 = .ok (.aload_n 2, 1) := by decide +kernel
theorem d_Law_law_418 : decode code 418 = .ok (.aload_n 0, 1) := by decide +kernel
theorem d_Law_law_419 : decode code 419 = .ok (.iload 4, 2) := by decide +kernel
theorem d_Law_law_421 : decode code 421 = .ok (.iconst 1, 1) := by decide +kernel
theorem d_Law_law_422 : decode code 422 = .ok (.iadd, 1) := by decide +kernel
theorem d_Law_law_423 : decode code 423 = .ok (.iaload, 1) := by decide +kernel
theorem d_Law_law_424 : decode code 424 = .ok (.aload_n 0, 1) := by decide +kernel
theorem d_Law_law_425 : decode code 425 = .ok (.iload 4, 2) := by decide +kernel
theorem d_Law_law_427 : decode code 427 = .ok (.iconst 2, 1) := by decide +kernel
theorem d_Law_law_428 : decode code 428 = .ok (.iadd, 1) := by decide +kernel
theorem d_Law_law_429 : decode code 429 = .ok (.iaload, 1) := by decide +kernel
theorem d_Law_law_430 : decode code 430 = .ok (.invokevirtual 68, 3) := by decide +kernel
theorem d_Law_law_433 : decode code 433 = .ok (.if_icmp .eq 316, 3) := by decide +kernel
theorem d_Law_law_436 : decode code 436 = .ok (.iconst 0, 1) := by decide +kernel
theorem d_Law_law_437 : decode code 437 = .ok (.ireturn, 1) := by decide +kernel
theorem d_Law_law_438 : decode code 438 = .ok (.aload_n 1, 1) := by decide +kernel
theorem d_Law_law_439 : decode code 439 = .ok (.aload_n 0, 1) := by decide +kernel
theorem d_Law_law_440 : decode code 440 = .ok (.iload 4, 2) := by decide +kernel
theorem d_Law_law_442 : decode code 442 = .ok (.iconst 1, 1) := by decide +kernel
theorem d_Law_law_443 : decode code 443 = .ok (.iadd, 1) := by decide +kernel
theorem d_Law_law_444 : decode code 444 = .ok (.iaload, 1) := by decide +kernel
theorem d_Law_law_445 : decode code 445 = .ok (.invokevirtual 69, 3) := by decide +kernel
theorem d_Law_law_448 : decode code 448 = .ok (.aload_n 2, 1) := by decide +kernel
theorem d_Law_law_449 : decode code 449 = .ok (.aload_n 0, 1) := by decide +kernel
theorem d_Law_law_450 : decode code 450 = .ok (.iload 4, 2) := by decide +kernel
theorem d_Law_law_452 : decode code 452 = .ok (.iconst 1, 1) := by decide +kernel
theorem d_Law_law_453 : decode code 453 = .ok (.iadd, 1) := by decide +kernel
theorem d_Law_law_454 : decode code 454 = .ok (.iaload, 1) := by decide +kernel
theorem d_Law_law_455 : decode code 455 = .ok (.invokevirtual 72, 3) := by decide +kernel
theorem d_Law_law_458 : decode code 458 = .ok (.if_icmp .eq 291, 3) := by decide +kernel
theorem d_Law_law_461 : decode code 461 = .ok (.iconst 0, 1) := by decide +kernel
theorem d_Law_law_462 : decode code 462 = .ok (.ireturn, 1) := by decide +kernel
theorem d_Law_law_463 : decode code 463 = .ok (.aload_n 1, 1) := by decide +kernel
theorem d_Law_law_464 : decode code 464 = .ok (.aload_n 3, 1) := by decide +kernel
theorem d_Law_law_465 : decode code 465 = .ok (.invokestatic 73, 3) := by decide +kernel
theorem d_Law_law_468 : decode code 468 = .ok (.istore 5, 2) := by decide +kernel
theorem d_Law_law_470 : decode code 470 = .ok (.aload_n 2, 1) := by decide +kernel
theorem d_Law_law_471 : decode code 471 = .ok (.invokevirtual 78, 3) := by decide +kernel
theorem d_Law_law_474 : decode code 474 = .ok (.istore 6, 2) := by decide +kernel
theorem d_Law_law_476 : decode code 476 = .ok (.aload_n 2, 1) := by decide +kernel
theorem d_Law_law_477 : decode code 477 = .ok (.invokevirtual 79, 3) := by decide +kernel
theorem d_Law_law_480 : decode code 480 = .ok (.iload 5, 2) := by decide +kernel
theorem d_Law_law_482 : decode code 482 = .ok (.if_icmp .eq 5, 3) := by decide +kernel
theorem d_Law_law_485 : decode code 485 = .ok (.iconst 0, 1) := by decide +kernel
theorem d_Law_law_486 : decode code 486 = .ok (.ireturn, 1) := by decide +kernel
theorem d_Law_law_487 : decode code 487 = .ok (.iload 5, 2) := by decide +kernel
theorem d_Law_law_489 : decode code 489 = .ok (.ifCond .ne 15, 3) := by decide +kernel
theorem d_Law_law_492 : decode code 492 = .ok (.aload_n 3, 1) := by decide +kernel
theorem d_Law_law_493 : decode code 493 = .ok (.iconst 0, 1) := by decide +kernel
theorem d_Law_law_494 : decode code 494 = .ok (.laload, 1) := by decide +kernel
theorem d_Law_law_495 : decode code 495 = .ok (.iload 6, 2) := by decide +kernel
theorem d_Law_law_497 : decode code 497 = .ok (.i2l, 1) := by decide +kernel
theorem d_Law_law_498 : decode code 498 = .ok (.lcmp, 1) := by decide +kernel
theorem d_Law_law_499 : decode code 499 = .ok (.ifCond .eq 5, 3) := by decide +kernel
theorem d_Law_law_502 : decode code 502 = .ok (.iconst 0, 1) := by decide +kernel
theorem d_Law_law_503 : decode code 503 = .ok (.ireturn, 1) := by decide +kernel
theorem d_Law_law_504 : decode code 504 = .ok (.goto 245, 3) := by decide +kernel
theorem d_Law_law_507 : decode code 507 = .ok (.aload_n 1, 1) := by decide +kernel
theorem d_Law_law_508 : decode code 508 = .ok (.aload_n 0, 1) := by decide +kernel
theorem d_Law_law_509 : decode code 509 = .ok (.iload 4, 2) := by decide +kernel
theorem d_Law_law_511 : decode code 511 = .ok (.iconst 1, 1) := by decide +kernel
theorem d_Law_law_512 : decode code 512 = .ok (.iadd, 1) := by decide +kernel
theorem d_Law_law_513 : decode code 513 = .ok (.iaload, 1) := by decide +kernel
theorem d_Law_law_514 : decode code 514 = .ok (.invokevirtual 82, 3) := by decide +kernel
theorem d_Law_law_517 : decode code 517 = .ok (.aload_n 2, 1) := by decide +kernel
theorem d_Law_law_518 : decode code 518 = .ok (.aload_n 0, 1) := by decide +kernel
theorem d_Law_law_519 : decode code 519 = .ok (.iload 4, 2) := by decide +kernel
theorem d_Law_law_521 : decode code 521 = .ok (.iconst 1, 1) := by decide +kernel
theorem d_Law_law_522 : decode code 522 = .ok (.iadd, 1) := by decide +kernel
theorem d_Law_law_523 : decode code 523 = .ok (.iaload, 1) := by decide +kernel
theorem d_Law_law_524 : decode code 524 = .ok (.invokevirtual 85, 3) := by decide +kernel
theorem d_Law_law_527 : decode code 527 = .ok (.if_icmp .eq 222, 3) := by decide +kernel
theorem d_Law_law_530 : decode code 530 = .ok (.iconst 0, 1) := by decide +kernel
theorem d_Law_law_531 : decode code 531 = .ok (.ireturn, 1) := by decide +kernel
theorem d_Law_law_532 : decode code 532 = .ok (.aload_n 1, 1) := by decide +kernel
theorem d_Law_law_533 : decode code 533 = .ok (.aload_n 0, 1) := by decide +kernel
theorem d_Law_law_534 : decode code 534 = .ok (.iload 4, 2) := by decide +kernel
theorem d_Law_law_536 : decode code 536 = .ok (.iconst 1, 1) := by decide +kernel
theorem d_Law_law_537 : decode code 537 = .ok (.iadd, 1) := by decide +kernel
theorem d_Law_law_538 : decode code 538 = .ok (.iaload, 1) := by decide +kernel
theorem d_Law_law_539 : decode code 539 = .ok (.invokevirtual 86, 3) := by decide +kernel
theorem d_Law_law_542 : decode code 542 = .ok (.aload_n 2, 1) := by decide +kernel
theorem d_Law_law_543 : decode code 543 = .ok (.aload_n 0, 1) := by decide +kernel
theorem d_Law_law_544 : decode code 544 = .ok (.iload 4, 2) := by decide +kernel
theorem d_Law_law_546 : decode code 546 = .ok (.iconst 1, 1) := by decide +kernel
theorem d_Law_law_547 : decode code 547 = .ok (.iadd, 1) := by decide +kernel
theorem d_Law_law_548 : decode code 548 = .ok (.iaload, 1) := by decide +kernel
theorem d_Law_law_549 : decode code 549 = .ok (.invokevirtual 89, 3) := by decide +kernel
theorem d_Law_law_552 : decode code 552 = .ok (.if_icmp .eq 197, 3) := by decide +kernel
theorem d_Law_law_555 : decode code 555 = .ok (.iconst 0, 1) := by decide +kernel
theorem d_Law_law_556 : decode code 556 = .ok (.ireturn, 1) := by decide +kernel
theorem d_Law_law_557 : decode code 557 = .ok (.aload_n 1, 1) := by decide +kernel
theorem d_Law_law_558 : decode code 558 = .ok (.aload_n 0, 1) := by decide +kernel
theorem d_Law_law_559 : decode code 559 = .ok (.iload 4, 2) := by decide +kernel
theorem d_Law_law_561 : decode code 561 = .ok (.iconst 1, 1) := by decide +kernel
theorem d_Law_law_562 : decode code 562 = .ok (.iadd, 1) := by decide +kernel
theorem d_Law_law_563 : decode code 563 = .ok (.iaload, 1) := by decide +kernel
theorem d_Law_law_564 : decode code 564 = .ok (.invokevirtual 90, 3) := by decide +kernel
theorem d_Law_law_567 : decode code 567 = .ok (.aload_n 2, 1) := by decide +kernel
theorem d_Law_law_568 : decode code 568 = .ok (.aload_n 0, 1) := by decide +kernel
theorem d_Law_law_569 : decode code 569 = .ok (.iload 4, 2) := by decide +kernel
theorem d_Law_law_571 : decode code 571 = .ok (.iconst 1, 1) := by decide +kernel
theorem d_Law_law_572 : decode code 572 = .ok (.iadd, 1) := by decide +kernel
theorem d_Law_law_573 : decode code 573 = .ok (.iaload, 1) := by decide +kernel
theorem d_Law_law_574 : decode code 574 = .ok (.invokevirtual 93, 3) := by decide +kernel
theorem d_Law_law_577 : decode code 577 = .ok (.if_icmp .eq 172, 3) := by decide +kernel
theorem d_Law_law_580 : decode code 580 = .ok (.iconst 0, 1) := by decide +kernel
theorem d_Law_law_581 : decode code 581 = .ok (.ireturn, 1) := by decide +kernel
theorem d_Law_law_582 : decode code 582 = .ok (.aload_n 1, 1) := by decide +kernel
theorem d_Law_law_583 : decode code 583 = .ok (.aload_n 0, 1) := by decide +kernel
theorem d_Law_law_584 : decode code 584 = .ok (.iload 4, 2) := by decide +kernel
theorem d_Law_law_586 : decode code 586 = .ok (.iconst 1, 1) := by decide +kernel
theorem d_Law_law_587 : decode code 587 = .ok (.iadd, 1) := by decide +kernel
theorem d_Law_law_588 : decode code 588 = .ok (.iaload, 1) := by decide +kernel
theorem d_Law_law_589 : decode code 589 = .ok (.invokevirtual 94, 3) := by decide +kernel
theorem d_Law_law_592 : decode code 592 = .ok (.aload_n 2, 1) := by decide +kernel
theorem d_Law_law_593 : decode code 593 = .ok (.aload_n 0, 1) := by decide +kernel
theorem d_Law_law_594 : decode code 594 = .ok (.iload 4, 2) := by decide +kernel
theorem d_Law_law_596 : decode code 596 = .ok (.iconst 1, 1) := by decide +kernel
theorem d_Law_law_597 : decode code 597 = .ok (.iadd, 1) := by decide +kernel
theorem d_Law_law_598 : decode code 598 = .ok (.iaload, 1) := by decide +kernel
theorem d_Law_law_599 : decode code 599 = .ok (.invokevirtual 97, 3) := by decide +kernel
theorem d_Law_law_602 : decode code 602 = .ok (.if_icmp .eq 147, 3) := by decide +kernel
theorem d_Law_law_605 : decode code 605 = .ok (.iconst 0, 1) := by decide +kernel
theorem d_Law_law_606 : decode code 606 = .ok (.ireturn, 1) := by decide +kernel
theorem d_Law_law_607 : decode code 607 = .ok (.aload_n 1, 1) := by decide +kernel
theorem d_Law_law_608 : decode code 608 = .ok (.aload_n 0, 1) := by decide +kernel
theorem d_Law_law_609 : decode code 609 = .ok (.iload 4, 2) := by decide +kernel
theorem d_Law_law_611 : decode code 611 = .ok (.iconst 1, 1) := by decide +kernel
theorem d_Law_law_612 : decode code 612 = .ok (.iadd, 1) := by decide +kernel
theorem d_Law_law_613 : decode code 613 = .ok (.iaload, 1) := by decide +kernel
theorem d_Law_law_614 : decode code 614 = .ok (.aload_n 0, 1) := by decide +kernel
theorem d_Law_law_615 : decode code 615 = .ok (.iload 4, 2) := by decide +kernel
theorem d_Law_law_617 : decode code 617 = .ok (.iconst 2, 1) := by decide +kernel
theorem d_Law_law_618 : decode code 618 = .ok (.iadd, 1) := by decide +kernel
theorem d_Law_law_619 : decode code 619 = .ok (.iaload, 1) := by decide +kernel
theorem d_Law_law_620 : decode code 620 = .ok (.aload_n 3, 1) := by decide +kernel
theorem d_Law_law_621 : decode code 621 = .ok (.invokestatic 98, 3) := by decide +kernel
theorem d_Law_law_624 : decode code 624 = .ok (.istore 5, 2) := by decide +kernel
theorem d_Law_law_626 : decode code 626 = .ok (.aload_n 2, 1) := by decide +kernel
theorem d_Law_law_627 : decode code 627 = .ok (.aload_n 0, 1) := by decide +kernel
theorem d_Law_law_628 : decode code 628 = .ok (.iload 4, 2) := by decide +kernel
theorem d_Law_law_630 : decode code 630 = .ok (.iconst 1, 1) := by decide +kernel
theorem d_Law_law_631 : decode code 631 = .ok (.iadd, 1) := by decide +kernel
theorem d_Law_law_632 : decode code 632 = .ok (.iaload, 1) := by decide +kernel
theorem d_Law_law_633 : decode code 633 = .ok (.aload_n 0, 1) := by decide +kernel
theorem d_Law_law_634 : decode code 634 = .ok (.iload 4, 2) := by decide +kernel
theorem d_Law_law_636 : decode code 636 = .ok (.iconst 2, 1) := by decide +kernel
theorem d_Law_law_637 : decode code 637 = .ok (.iadd, 1) := by decide +kernel
theorem d_Law_law_638 : decode code 638 = .ok (.iaload, 1) := by decide +kernel
theorem d_Law_law_639 : decode code 639 = .ok (.invokevirtual 101, 3) := by decide +kernel
theorem d_Law_law_642 : decode code 642 = .ok (.istore 6, 2) := by decide +kernel
theorem d_Law_law_644 : decode code 644 = .ok (.aload_n 2, 1) := by decide +kernel
theorem d_Law_law_645 : decode code 645 = .ok (.invokevirtual 79, 3) := by decide +kernel
theorem d_Law_law_648 : decode code 648 = .ok (.iload 5, 2) := by decide +kernel
theorem d_Law_law_650 : decode code 650 = .ok (.if_icmp .eq 5, 3) := by decide +kernel
theorem d_Law_law_653 : decode code 653 = .ok (.iconst 0, 1) := by decide +kernel
theorem d_Law_law_654 : decode code 654 = .ok (.ireturn, 1) := by decide +kernel
theorem d_Law_law_655 : decode code 655 = .ok (.iload 5, 2) := by decide +kernel
theorem d_Law_law_657 : decode code 657 = .ok (.ifCond .ne 15, 3) := by decide +kernel
theorem d_Law_law_660 : decode code 660 = .ok (.aload_n 3, 1) := by decide +kernel
theorem d_Law_law_661 : decode code 661 = .ok (.iconst 0, 1) := by decide +kernel
theorem d_Law_law_662 : decode code 662 = .ok (.laload, 1) := by decide +kernel
theorem d_Law_law_663 : decode code 663 = .ok (.iload 6, 2) := by decide +kernel
theorem d_Law_law_665 : decode code 665 = .ok (.i2l, 1) := by decide +kernel
theorem d_Law_law_666 : decode code 666 = .ok (.lcmp, 1) := by decide +kernel
theorem d_Law_law_667 : decode code 667 = .ok (.ifCond .eq 5, 3) := by decide +kernel
theorem d_Law_law_670 : decode code 670 = .ok (.iconst 0, 1) := by decide +kernel
theorem d_Law_law_671 : decode code 671 = .ok (.ireturn, 1) := by decide +kernel
theorem d_Law_law_672 : decode code 672 = .ok (.goto 77, 3) := by decide +kernel
theorem d_Law_law_675 : decode code 675 = .ok (.aload_n 1, 1) := by decide +kernel
theorem d_Law_law_676 : decode code 676 = .ok (.aload_n 0, 1) := by decide +kernel
theorem d_Law_law_677 : decode code 677 = .ok (.iload 4, 2) := by decide +kernel
theorem d_Law_law_679 : decode code 679 = .ok (.iconst 1, 1) := by decide +kernel
theorem d_Law_law_680 : decode code 680 = .ok (.iadd, 1) := by decide +kernel
theorem d_Law_law_681 : decode code 681 = .ok (.iaload, 1) := by decide +kernel
theorem d_Law_law_682 : decode code 682 = .ok (.aload_n 0, 1) := by decide +kernel
theorem d_Law_law_683 : decode code 683 = .ok (.iload 4, 2) := by decide +kernel
theorem d_Law_law_685 : decode code 685 = .ok (.iconst 2, 1) := by decide +kernel
theorem d_Law_law_686 : decode code 686 = .ok (.iadd, 1) := by decide +kernel
theorem d_Law_law_687 : decode code 687 = .ok (.iaload, 1) := by decide +kernel
theorem d_Law_law_688 : decode code 688 = .ok (.invokevirtual 102, 3) := by decide +kernel
theorem d_Law_law_691 : decode code 691 = .ok (.aload_n 2, 1) := by decide +kernel
theorem d_Law_law_692 : decode code 692 = .ok (.aload_n 0, 1) := by decide +kernel
theorem d_Law_law_693 : decode code 693 = .ok (.iload 4, 2) := by decide +kernel
theorem d_Law_law_695 : decode code 695 = .ok (.iconst 1, 1) := by decide +kernel
theorem d_Law_law_696 : decode code 696 = .ok (.iadd, 1) := by decide +kernel
theorem d_Law_law_697 : decode code 697 = .ok (.iaload, 1) := by decide +kernel
theorem d_Law_law_698 : decode code 698 = .ok (.aload_n 0, 1) := by decide +kernel
theorem d_Law_law_699 : decode code 699 = .ok (.iload 4, 2) := by decide +kernel
theorem d_Law_law_701 : decode code 701 = .ok (.iconst 2, 1) := by decide +kernel
theorem d_Law_law_702 : decode code 702 = .ok (.iadd, 1) := by decide +kernel
theorem d_Law_law_703 : decode code 703 = .ok (.iaload, 1) := by decide +kernel
theorem d_Law_law_704 : decode code 704 = .ok (.invokevirtual 105, 3) := by decide +kernel
theorem d_Law_law_707 : decode code 707 = .ok (.if_icmp .eq 42, 3) := by decide +kernel
theorem d_Law_law_710 : decode code 710 = .ok (.iconst 0, 1) := by decide +kernel
theorem d_Law_law_711 : decode code 711 = .ok (.ireturn, 1) := by decide +kernel
theorem d_Law_law_712 : decode code 712 = .ok (.aload_n 1, 1) := by decide +kernel
theorem d_Law_law_713 : decode code 713 = .ok (.aload_n 0, 1) := by decide +kernel
theorem d_Law_law_714 : decode code 714 = .ok (.iload 4, 2) := by decide +kernel
theorem d_Law_law_716 : decode code 716 = .ok (.iconst 1, 1) := by decide +kernel
theorem d_Law_law_717 : decode code 717 = .ok (.iadd, 1) := by decide +kernel
theorem d_Law_law_718 : decode code 718 = .ok (.iaload, 1) := by decide +kernel
theorem d_Law_law_719 : decode code 719 = .ok (.aload_n 0, 1) := by decide +kernel
theorem d_Law_law_720 : decode code 720 = .ok (.iload 4, 2) := by decide +kernel
theorem d_Law_law_722 : decode code 722 = .ok (.iconst 2, 1) := by decide +kernel
theorem d_Law_law_723 : decode code 723 = .ok (.iadd, 1) := by decide +kernel
theorem d_Law_law_724 : decode code 724 = .ok (.iaload, 1) := by decide +kernel
theorem d_Law_law_725 : decode code 725 = .ok (.invokevirtual 106, 3) := by decide +kernel
theorem d_Law_law_728 : decode code 728 = .ok (.aload_n 2, 1) := by decide +kernel
theorem d_Law_law_729 : decode code 729 = .ok (.aload_n 0, 1) := by decide +kernel
theorem d_Law_law_730 : decode code 730 = .ok (.iload 4, 2) := by decide +kernel
theorem d_Law_law_732 : decode code 732 = .ok (.iconst 1, 1) := by decide +kernel
theorem d_Law_law_733 : decode code 733 = .ok (.iadd, 1) := by decide +kernel
theorem d_Law_law_734 : decode code 734 = .ok (.iaload, 1) := by decide +kernel
theorem d_Law_law_735 : decode code 735 = .ok (.aload_n 0, 1) := by decide +kernel
theorem d_Law_law_736 : decode code 736 = .ok (.iload 4, 2) := by decide +kernel
theorem d_Law_law_738 : decode code 738 = .ok (.iconst 2, 1) := by decide +kernel
theorem d_Law_law_739 : decode code 739 = .ok (.iadd, 1) := by decide +kernel
theorem d_Law_law_740 : decode code 740 = .ok (.iaload, 1) := by decide +kernel
theorem d_Law_law_741 : decode code 741 = .ok (.invokevirtual 109, 3) := by decide +kernel
theorem d_Law_law_744 : decode code 744 = .ok (.if_icmp .eq 5, 3) := by decide +kernel
theorem d_Law_law_747 : decode code 747 = .ok (.iconst 0, 1) := by decide +kernel
theorem d_Law_law_748 : decode code 748 = .ok (.ireturn, 1) := by decide +kernel
theorem d_Law_law_749 : decode code 749 = .ok (.iinc 4 4, 3) := by decide +kernel
theorem d_Law_law_752 : decode code 752 = .ok (.goto (-729), 3) := by decide +kernel
theorem d_Law_law_755 : decode code 755 = .ok (.iconst 1, 1) := by decide +kernel
theorem d_Law_law_756 : decode code 756 = .ok (.ireturn, 1) := by decide +kernel
