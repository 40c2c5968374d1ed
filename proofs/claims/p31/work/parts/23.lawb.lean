theorem dyL_law_454 : decode cL_law 454 = .ok (.iaload, 1) := by decide +kernel
theorem dyL_law_455 : decode cL_law 455 = .ok (.invokevirtual 53, 3) := by decide +kernel
theorem dyL_law_458 : decode cL_law 458 = .ok (.pop, 1) := by decide +kernel
theorem dyL_law_459 : decode cL_law 459 = .ok (.aload_n 2, 1) := by decide +kernel
theorem dyL_law_460 : decode cL_law 460 = .ok (.aload_n 0, 1) := by decide +kernel
theorem dyL_law_461 : decode cL_law 461 = .ok (.iload_n 3, 1) := by decide +kernel
theorem dyL_law_462 : decode cL_law 462 = .ok (.iconst 1, 1) := by decide +kernel
theorem dyL_law_463 : decode cL_law 463 = .ok (.iadd, 1) := by decide +kernel
theorem dyL_law_464 : decode cL_law 464 = .ok (.iaload, 1) := by decide +kernel
theorem dyL_law_465 : decode cL_law 465 = .ok (.invokevirtual 56, 3) := by decide +kernel
theorem dyL_law_468 : decode cL_law 468 = .ok (.pop, 1) := by decide +kernel
theorem dyL_law_469 : decode cL_law 469 = .ok (.goto 776, 3) := by decide +kernel
theorem dyL_law_472 : decode cL_law 472 = .ok (.aload_n 1, 1) := by decide +kernel
theorem dyL_law_473 : decode cL_law 473 = .ok (.aload_n 0, 1) := by decide +kernel
theorem dyL_law_474 : decode cL_law 474 = .ok (.iload_n 3, 1) := by decide +kernel
theorem dyL_law_475 : decode cL_law 475 = .ok (.iconst 1, 1) := by decide +kernel
theorem dyL_law_476 : decode cL_law 476 = .ok (.iadd, 1) := by decide +kernel
theorem dyL_law_477 : decode cL_law 477 = .ok (.iaload, 1) := by decide +kernel
theorem dyL_law_478 : decode cL_law 478 = .ok (.aload_n 0, 1) := by decide +kernel
theorem dyL_law_479 : decode cL_law 479 = .ok (.iload_n 3, 1) := by decide +kernel
theorem dyL_law_480 : decode cL_law 480 = .ok (.iconst 2, 1) := by decide +kernel
theorem dyL_law_481 : decode cL_law 481 = .ok (.iadd, 1) := by decide +kernel
theorem dyL_law_482 : decode cL_law 482 = .ok (.iaload, 1) := by decide +kernel
theorem dyL_law_483 : decode cL_law 483 = .ok (.invokevirtual 57, 3) := by decide +kernel
theorem dyL_law_486 : decode cL_law 486 = .ok (.pop, 1) := by decide +kernel
theorem dyL_law_487 : decode cL_law 487 = .ok (.aload_n 2, 1) := by decide +kernel
theorem dyL_law_488 : decode cL_law 488 = .ok (.aload_n 0, 1) := by decide +kernel
theorem dyL_law_489 : decode cL_law 489 = .ok (.iload_n 3, 1) := by decide +kernel
theorem dyL_law_490 : decode cL_law 490 = .ok (.iconst 1, 1) := by decide +kernel
theorem dyL_law_491 : decode cL_law 491 = .ok (.iadd, 1) := by decide +kernel
theorem dyL_law_492 : decode cL_law 492 = .ok (.iaload, 1) := by decide +kernel
theorem dyL_law_493 : decode cL_law 493 = .ok (.aload_n 0, 1) := by decide +kernel
theorem dyL_law_494 : decode cL_law 494 = .ok (.iload_n 3, 1) := by decide +kernel
theorem dyL_law_495 : decode cL_law 495 = .ok (.iconst 2, 1) := by decide +kernel
theorem dyL_law_496 : decode cL_law 496 = .ok (.iadd, 1) := by decide +kernel
theorem dyL_law_497 : decode cL_law 497 = .ok (.iaload, 1) := by decide +kernel
theorem dyL_law_498 : decode cL_law 498 = .ok (.invokevirtual 60, 3) := by decide +kernel
theorem dyL_law_501 : decode cL_law 501 = .ok (.pop, 1) := by decide +kernel
theorem dyL_law_502 : decode cL_law 502 = .ok (.goto 743, 3) := by decide +kernel
theorem dyL_law_505 : decode cL_law 505 = .ok (.aload_n 1, 1) := by decide +kernel
theorem dyL_law_506 : decode cL_law 506 = .ok (.aload_n 0, 1) := by decide +kernel
theorem dyL_law_507 : decode cL_law 507 = .ok (.iload_n 3, 1) := by decide +kernel
theorem dyL_law_508 : decode cL_law 508 = .ok (.iconst 1, 1) := by decide +kernel
theorem dyL_law_509 : decode cL_law 509 = .ok (.iadd, 1) := by decide +kernel
theorem dyL_law_510 : decode cL_law 510 = .ok (.iaload, 1) := by decide +kernel
theorem dyL_law_511 : decode cL_law 511 = .ok (.invokevirtual 61, 3) := by decide +kernel
theorem dyL_law_514 : decode cL_law 514 = .ok (.pop, 1) := by decide +kernel
theorem dyL_law_515 : decode cL_law 515 = .ok (.aload_n 2, 1) := by decide +kernel
theorem dyL_law_516 : decode cL_law 516 = .ok (.aload_n 0, 1) := by decide +kernel
theorem dyL_law_517 : decode cL_law 517 = .ok (.iload_n 3, 1) := by decide +kernel
theorem dyL_law_518 : decode cL_law 518 = .ok (.iconst 1, 1) := by decide +kernel
theorem dyL_law_519 : decode cL_law 519 = .ok (.iadd, 1) := by decide +kernel
theorem dyL_law_520 : decode cL_law 520 = .ok (.iaload, 1) := by decide +kernel
theorem dyL_law_521 : decode cL_law 521 = .ok (.invokevirtual 64, 3) := by decide +kernel
theorem dyL_law_524 : decode cL_law 524 = .ok (.pop, 1) := by decide +kernel
theorem dyL_law_525 : decode cL_law 525 = .ok (.goto 720, 3) := by decide +kernel
theorem dyL_law_528 : decode cL_law 528 = .ok (.aload_n 1, 1) := by decide +kernel
theorem dyL_law_529 : decode cL_law 529 = .ok (.aload_n 0, 1) := by decide +kernel
theorem dyL_law_530 : decode cL_law 530 = .ok (.iload_n 3, 1) := by decide +kernel
theorem dyL_law_531 : decode cL_law 531 = .ok (.iconst 1, 1) := by decide +kernel
theorem dyL_law_532 : decode cL_law 532 = .ok (.iadd, 1) := by decide +kernel
theorem dyL_law_533 : decode cL_law 533 = .ok (.iaload, 1) := by decide +kernel
theorem dyL_law_534 : decode cL_law 534 = .ok (.aload_n 0, 1) := by decide +kernel
theorem dyL_law_535 : decode cL_law 535 = .ok (.iload_n 3, 1) := by decide +kernel
theorem dyL_law_536 : decode cL_law 536 = .ok (.iconst 2, 1) := by decide +kernel
theorem dyL_law_537 : decode cL_law 537 = .ok (.iadd, 1) := by decide +kernel
theorem dyL_law_538 : decode cL_law 538 = .ok (.iaload, 1) := by decide +kernel
theorem dyL_law_539 : decode cL_law 539 = .ok (.invokevirtual 65, 3) := by decide +kernel
theorem dyL_law_542 : decode cL_law 542 = .ok (.pop, 1) := by decide +kernel
theorem dyL_law_543 : decode cL_law 543 = .ok (.aload_n 2, 1) := by decide +kernel
theorem dyL_law_544 : decode cL_law 544 = .ok (.aload_n 0, 1) := by decide +kernel
theorem dyL_law_545 : decode cL_law 545 = .ok (.iload_n 3, 1) := by decide +kernel
theorem dyL_law_546 : decode cL_law 546 = .ok (.iconst 1, 1) := by decide +kernel
theorem dyL_law_547 : decode cL_law 547 = .ok (.iadd, 1) := by decide +kernel
theorem dyL_law_548 : decode cL_law 548 = .ok (.iaload, 1) := by decide +kernel
theorem dyL_law_549 : decode cL_law 549 = .ok (.aload_n 0, 1) := by decide +kernel
theorem dyL_law_550 : decode cL_law 550 = .ok (.iload_n 3, 1) := by decide +kernel
theorem dyL_law_551 : decode cL_law 551 = .ok (.iconst 2, 1) := by decide +kernel
theorem dyL_law_552 : decode cL_law 552 = .ok (.iadd, 1) := by decide +kernel
theorem dyL_law_553 : decode cL_law 553 = .ok (.iaload, 1) := by decide +kernel
theorem dyL_law_554 : decode cL_law 554 = .ok (.invokevirtual 68, 3) := by decide +kernel
theorem dyL_law_557 : decode cL_law 557 = .ok (.pop, 1) := by decide +kernel
theorem dyL_law_558 : decode cL_law 558 = .ok (.goto 687, 3) := by decide +kernel
theorem dyL_law_561 : decode cL_law 561 = .ok (.aload_n 1, 1) := by decide +kernel
theorem dyL_law_562 : decode cL_law 562 = .ok (.aload_n 0, 1) := by decide +kernel
theorem dyL_law_563 : decode cL_law 563 = .ok (.iload_n 3, 1) := by decide +kernel
theorem dyL_law_564 : decode cL_law 564 = .ok (.iconst 1, 1) := by decide +kernel
theorem dyL_law_565 : decode cL_law 565 = .ok (.iadd, 1) := by decide +kernel
theorem dyL_law_566 : decode cL_law 566 = .ok (.iaload, 1) := by decide +kernel
theorem dyL_law_567 : decode cL_law 567 = .ok (.aload_n 0, 1) := by decide +kernel
theorem dyL_law_568 : decode cL_law 568 = .ok (.iload_n 3, 1) := by decide +kernel
theorem dyL_law_569 : decode cL_law 569 = .ok (.iconst 2, 1) := by decide +kernel
theorem dyL_law_570 : decode cL_law 570 = .ok (.iadd, 1) := by decide +kernel
theorem dyL_law_571 : decode cL_law 571 = .ok (.iaload, 1) := by decide +kernel
theorem dyL_law_572 : decode cL_law 572 = .ok (.invokevirtual 69, 3) := by decide +kernel
theorem dyL_law_575 : decode cL_law 575 = .ok (.pop, 1) := by decide +kernel
theorem dyL_law_576 : decode cL_law 576 = .ok (.aload_n 2, 1) := by decide +kernel
theorem dyL_law_577 : decode cL_law 577 = .ok (.aload_n 0, 1) := by decide +kernel
theorem dyL_law_578 : decode cL_law 578 = .ok (.iload_n 3, 1) := by decide +kernel
theorem dyL_law_579 : decode cL_law 579 = .ok (.iconst 1, 1) := by decide +kernel
theorem dyL_law_580 : decode cL_law 580 = .ok (.iadd, 1) := by decide +kernel
theorem dyL_law_581 : decode cL_law 581 = .ok (.iaload, 1) := by decide +kernel
theorem dyL_law_582 : decode cL_law 582 = .ok (.aload_n 0, 1) := by decide +kernel
theorem dyL_law_583 : decode cL_law 583 = .ok (.iload_n 3, 1) := by decide +kernel
theorem dyL_law_584 : decode cL_law 584 = .ok (.iconst 2, 1) := by decide +kernel
theorem dyL_law_585 : decode cL_law 585 = .ok (.iadd, 1) := by decide +kernel
theorem dyL_law_586 : decode cL_law 586 = .ok (.iaload, 1) := by decide +kernel
theorem dyL_law_587 : decode cL_law 587 = .ok (.invokevirtual 72, 3) := by decide +kernel
theorem dyL_law_590 : decode cL_law 590 = .ok (.pop, 1) := by decide +kernel
theorem dyL_law_591 : decode cL_law 591 = .ok (.goto 654, 3) := by decide +kernel
theorem dyL_law_594 : decode cL_law 594 = .ok (.aload_n 1, 1) := by decide +kernel
theorem dyL_law_595 : decode cL_law 595 = .ok (.aload_n 0, 1) := by decide +kernel
theorem dyL_law_596 : decode cL_law 596 = .ok (.iload_n 3, 1) := by decide +kernel
theorem dyL_law_597 : decode cL_law 597 = .ok (.iconst 1, 1) := by decide +kernel
theorem dyL_law_598 : decode cL_law 598 = .ok (.iadd, 1) := by decide +kernel
theorem dyL_law_599 : decode cL_law 599 = .ok (.iaload, 1) := by decide +kernel
theorem dyL_law_600 : decode cL_law 600 = .ok (.invokevirtual 73, 3) := by decide +kernel
theorem dyL_law_603 : decode cL_law 603 = .ok (.pop, 1) := by decide +kernel
theorem dyL_law_604 : decode cL_law 604 = .ok (.aload_n 2, 1) := by decide +kernel
theorem dyL_law_605 : decode cL_law 605 = .ok (.aload_n 0, 1) := by decide +kernel
theorem dyL_law_606 : decode cL_law 606 = .ok (.iload_n 3, 1) := by decide +kernel
theorem dyL_law_607 : decode cL_law 607 = .ok (.iconst 1, 1) := by decide +kernel
theorem dyL_law_608 : decode cL_law 608 = .ok (.iadd, 1) := by decide +kernel
theorem dyL_law_609 : decode cL_law 609 = .ok (.iaload, 1) := by decide +kernel
theorem dyL_law_610 : decode cL_law 610 = .ok (.invokevirtual 76, 3) := by decide +kernel
theorem dyL_law_613 : decode cL_law 613 = .ok (.pop, 1) := by decide +kernel
theorem dyL_law_614 : decode cL_law 614 = .ok (.goto 631, 3) := by decide +kernel
theorem dyL_law_617 : decode cL_law 617 = .ok (.aload_n 1, 1) := by decide +kernel
theorem dyL_law_618 : decode cL_law 618 = .ok (.invokevirtual 77, 3) := by decide +kernel
theorem dyL_law_621 : decode cL_law 621 = .ok (.pop, 1) := by decide +kernel
theorem dyL_law_622 : decode cL_law 622 = .ok (.aload_n 2, 1) := by decide +kernel
theorem dyL_law_623 : decode cL_law 623 = .ok (.invokevirtual 81, 3) := by decide +kernel
theorem dyL_law_626 : decode cL_law 626 = .ok (.pop, 1) := by decide +kernel
theorem dyL_law_627 : decode cL_law 627 = .ok (.goto 618, 3) := by decide +kernel
theorem dyL_law_630 : decode cL_law 630 = .ok (.aload_n 1, 1) := by decide +kernel
theorem dyL_law_631 : decode cL_law 631 = .ok (.aload_n 0, 1) := by decide +kernel
theorem dyL_law_632 : decode cL_law 632 = .ok (.iload_n 3, 1) := by decide +kernel
theorem dyL_law_633 : decode cL_law 633 = .ok (.iconst 1, 1) := by decide +kernel
theorem dyL_law_634 : decode cL_law 634 = .ok (.iadd, 1) := by decide +kernel
theorem dyL_law_635 : decode cL_law 635 = .ok (.iaload, 1) := by decide +kernel
theorem dyL_law_636 : decode cL_law 636 = .ok (.invokevirtual 82, 3) := by decide +kernel
theorem dyL_law_639 : decode cL_law 639 = .ok (.pop, 1) := by decide +kernel
theorem dyL_law_640 : decode cL_law 640 = .ok (.aload_n 2, 1) := by decide +kernel
theorem dyL_law_641 : decode cL_law 641 = .ok (.aload_n 0, 1) := by decide +kernel
theorem dyL_law_642 : decode cL_law 642 = .ok (.iload_n 3, 1) := by decide +kernel
theorem dyL_law_643 : decode cL_law 643 = .ok (.iconst 1, 1) := by decide +kernel
theorem dyL_law_644 : decode cL_law 644 = .ok (.iadd, 1) := by decide +kernel
theorem dyL_law_645 : decode cL_law 645 = .ok (.iaload, 1) := by decide +kernel
theorem dyL_law_646 : decode cL_law 646 = .ok (.invokevirtual 85, 3) := by decide +kernel
theorem dyL_law_649 : decode cL_law 649 = .ok (.pop, 1) := by decide +kernel
theorem dyL_law_650 : decode cL_law 650 = .ok (.goto 595, 3) := by decide +kernel
theorem dyL_law_653 : decode cL_law 653 = .ok (.aload_n 1, 1) := by decide +kernel
theorem dyL_law_654 : decode cL_law 654 = .ok (.invokevirtual 86, 3) := by decide +kernel
theorem dyL_law_657 : decode cL_law 657 = .ok (.pop, 1) := by decide +kernel
theorem dyL_law_658 : decode cL_law 658 = .ok (.aload_n 2, 1) := by decide +kernel
theorem dyL_law_659 : decode cL_law 659 = .ok (.invokevirtual 89, 3) := by decide +kernel
theorem dyL_law_662 : decode cL_law 662 = .ok (.pop, 1) := by decide +kernel
theorem dyL_law_663 : decode cL_law 663 = .ok (.goto 582, 3) := by decide +kernel
theorem dyL_law_666 : decode cL_law 666 = .ok (.aload_n 1, 1) := by decide +kernel
theorem dyL_law_667 : decode cL_law 667 = .ok (.aload_n 0, 1) := by decide +kernel
theorem dyL_law_668 : decode cL_law 668 = .ok (.iload_n 3, 1) := by decide +kernel
theorem dyL_law_669 : decode cL_law 669 = .ok (.iconst 1, 1) := by decide +kernel
theorem dyL_law_670 : decode cL_law 670 = .ok (.iadd, 1) := by decide +kernel
theorem dyL_law_671 : decode cL_law 671 = .ok (.iaload, 1) := by decide +kernel
theorem dyL_law_672 : decode cL_law 672 = .ok (.invokevirtual 90, 3) := by decide +kernel
theorem dyL_law_675 : decode cL_law 675 = .ok (.pop, 1) := by decide +kernel
theorem dyL_law_676 : decode cL_law 676 = .ok (.aload_n 2, 1) := by decide +kernel
theorem dyL_law_677 : decode cL_law 677 = .ok (.aload_n 0, 1) := by decide +kernel
theorem dyL_law_678 : decode cL_law 678 = .ok (.iload_n 3, 1) := by decide +kernel
theorem dyL_law_679 : decode cL_law 679 = .ok (.iconst 1, 1) := by decide +kernel
theorem dyL_law_680 : decode cL_law 680 = .ok (.iadd, 1) := by decide +kernel
theorem dyL_law_681 : decode cL_law 681 = .ok (.iaload, 1) := by decide +kernel
theorem dyL_law_682 : decode cL_law 682 = .ok (.invokevirtual 93, 3) := by decide +kernel
theorem dyL_law_685 : decode cL_law 685 = .ok (.pop, 1) := by decide +kernel
theorem dyL_law_686 : decode cL_law 686 = .ok (.goto 559, 3) := by decide +kernel
theorem dyL_law_689 : decode cL_law 689 = .ok (.aload_n 1, 1) := by decide +kernel
theorem dyL_law_690 : decode cL_law 690 = .ok (.aload_n 0, 1) := by decide +kernel
theorem dyL_law_691 : decode cL_law 691 = .ok (.iload_n 3, 1) := by decide +kernel
theorem dyL_law_692 : decode cL_law 692 = .ok (.iconst 1, 1) := by decide +kernel
theorem dyL_law_693 : decode cL_law 693 = .ok (.iadd, 1) := by decide +kernel
theorem dyL_law_694 : decode cL_law 694 = .ok (.iaload, 1) := by decide +kernel
theorem dyL_law_695 : decode cL_law 695 = .ok (.invokevirtual 94, 3) := by decide +kernel
theorem dyL_law_698 : decode cL_law 698 = .ok (.pop, 1) := by decide +kernel
theorem dyL_law_699 : decode cL_law 699 = .ok (.aload_n 2, 1) := by decide +kernel
theorem dyL_law_700 : decode cL_law 700 = .ok (.aload_n 0, 1) := by decide +kernel
theorem dyL_law_701 : decode cL_law 701 = .ok (.iload_n 3, 1) := by decide +kernel
theorem dyL_law_702 : decode cL_law 702 = .ok (.iconst 1, 1) := by decide +kernel
theorem dyL_law_703 : decode cL_law 703 = .ok (.iadd, 1) := by decide +kernel
theorem dyL_law_704 : decode cL_law 704 = .ok (.iaload, 1) := by decide +kernel
theorem dyL_law_705 : decode cL_law 705 = .ok (.invokevirtual 97, 3) := by decide +kernel
theorem dyL_law_708 : decode cL_law 708 = .ok (.pop, 1) := by decide +kernel
theorem dyL_law_709 : decode cL_law 709 = .ok (.goto 536, 3) := by decide +kernel
theorem dyL_law_712 : decode cL_law 712 = .ok (.aload_n 1, 1) := by decide +kernel
theorem dyL_law_713 : decode cL_law 713 = .ok (.aload_n 0, 1) := by decide +kernel
theorem dyL_law_714 : decode cL_law 714 = .ok (.iload_n 3, 1) := by decide +kernel
theorem dyL_law_715 : decode cL_law 715 = .ok (.iconst 1, 1) := by decide +kernel
theorem dyL_law_716 : decode cL_law 716 = .ok (.iadd, 1) := by decide +kernel
theorem dyL_law_717 : decode cL_law 717 = .ok (.iaload, 1) := by decide +kernel
theorem dyL_law_718 : decode cL_law 718 = .ok (.invokevirtual 98, 3) := by decide +kernel
theorem dyL_law_721 : decode cL_law 721 = .ok (.pop, 1) := by decide +kernel
theorem dyL_law_722 : decode cL_law 722 = .ok (.aload_n 2, 1) := by decide +kernel
theorem dyL_law_723 : decode cL_law 723 = .ok (.aload_n 0, 1) := by decide +kernel
theorem dyL_law_724 : decode cL_law 724 = .ok (.iload_n 3, 1) := by decide +kernel
theorem dyL_law_725 : decode cL_law 725 = .ok (.iconst 1, 1) := by decide +kernel
theorem dyL_law_726 : decode cL_law 726 = .ok (.iadd, 1) := by decide +kernel
theorem dyL_law_727 : decode cL_law 727 = .ok (.iaload, 1) := by decide +kernel
theorem dyL_law_728 : decode cL_law 728 = .ok (.invokevirtual 101, 3) := by decide +kernel
theorem dyL_law_731 : decode cL_law 731 = .ok (.pop, 1) := by decide +kernel
theorem dyL_law_732 : decode cL_law 732 = .ok (.goto 513, 3) := by decide +kernel
theorem dyL_law_735 : decode cL_law 735 = .ok (.aload_n 1, 1) := by decide +kernel
