theorem dyL_law_426 : decode cL_law 426 = .ok (.goto 4, 3) := by decide +kernel
theorem dyL_law_429 : decode cL_law 429 = .ok (.iconst 0, 1) := by decide +kernel
theorem dyL_law_430 : decode cL_law 430 = .ok (.istore_n 3, 1) := by decide +kernel
theorem dyL_law_431 : decode cL_law 431 = .ok (.goto 991, 3) := by decide +kernel
theorem dyL_law_434 : decode cL_law 434 = .ok (.iload 9, 2) := by decide +kernel
theorem dyL_law_436 : decode cL_law 436 = .ok (.ifCond .eq 17, 3) := by decide +kernel
theorem dyL_law_439 : decode cL_law 439 = .ok (.aload_n 2, 1) := by decide +kernel
theorem dyL_law_440 : decode cL_law 440 = .ok (.aload_n 2, 1) := by decide +kernel
theorem dyL_law_441 : decode cL_law 441 = .ok (.iload 13, 2) := by decide +kernel
theorem dyL_law_443 : decode cL_law 443 = .ok (.invokevirtual 96, 3) := by decide +kernel
theorem dyL_law_446 : decode cL_law 446 = .ok (.iconst 1, 1) := by decide +kernel
theorem dyL_law_447 : decode cL_law 447 = .ok (.invokevirtual 46, 3) := by decide +kernel
theorem dyL_law_450 : decode cL_law 450 = .ok (.goto 4, 3) := by decide +kernel
theorem dyL_law_453 : decode cL_law 453 = .ok (.iconst 0, 1) := by decide +kernel
theorem dyL_law_454 : decode cL_law 454 = .ok (.istore 16, 2) := by decide +kernel
theorem dyL_law_456 : decode cL_law 456 = .ok (.aload_n 2, 1) := by decide +kernel
theorem dyL_law_457 : decode cL_law 457 = .ok (.iload 13, 2) := by decide +kernel
theorem dyL_law_459 : decode cL_law 459 = .ok (.invokevirtual 99, 3) := by decide +kernel
theorem dyL_law_462 : decode cL_law 462 = .ok (.istore 15, 2) := by decide +kernel
theorem dyL_law_464 : decode cL_law 464 = .ok (.iload 15, 2) := by decide +kernel
theorem dyL_law_466 : decode cL_law 466 = .ok (.ifCond .ne 7, 3) := by decide +kernel
theorem dyL_law_469 : decode cL_law 469 = .ok (.iconst 1, 1) := by decide +kernel
theorem dyL_law_470 : decode cL_law 470 = .ok (.goto 4, 3) := by decide +kernel
theorem dyL_law_473 : decode cL_law 473 = .ok (.iconst 0, 1) := by decide +kernel
theorem dyL_law_474 : decode cL_law 474 = .ok (.iload 9, 2) := by decide +kernel
theorem dyL_law_476 : decode cL_law 476 = .ok (.ifCond .eq 22, 3) := by decide +kernel
theorem dyL_law_479 : decode cL_law 479 = .ok (.iload 13, 2) := by decide +kernel
theorem dyL_law_481 : decode cL_law 481 = .ok (.iload 12, 2) := by decide +kernel
theorem dyL_law_483 : decode cL_law 483 = .ok (.if_icmp .ge 15, 3) := by decide +kernel
theorem dyL_law_486 : decode cL_law 486 = .ok (.iload 11, 2) := by decide +kernel
theorem dyL_law_488 : decode cL_law 488 = .ok (.sipush 3000, 3) := by decide +kernel
theorem dyL_law_491 : decode cL_law 491 = .ok (.if_icmp .ge 7, 3) := by decide +kernel
theorem dyL_law_494 : decode cL_law 494 = .ok (.iconst 1, 1) := by decide +kernel
theorem dyL_law_495 : decode cL_law 495 = .ok (.goto 4, 3) := by decide +kernel
theorem dyL_law_498 : decode cL_law 498 = .ok (.iconst 0, 1) := by decide +kernel
theorem dyL_law_499 : decode cL_law 499 = .ok (.if_icmp .ne 36, 3) := by decide +kernel
theorem dyL_law_502 : decode cL_law 502 = .ok (.iload 15, 2) := by decide +kernel
theorem dyL_law_504 : decode cL_law 504 = .ok (.ifCond .lt 27, 3) := by decide +kernel
theorem dyL_law_507 : decode cL_law 507 = .ok (.aload_n 2, 1) := by decide +kernel
theorem dyL_law_508 : decode cL_law 508 = .ok (.iconst 0, 1) := by decide +kernel
theorem dyL_law_509 : decode cL_law 509 = .ok (.invokevirtual 36, 3) := by decide +kernel
theorem dyL_law_512 : decode cL_law 512 = .ok (.iload 5, 2) := by decide +kernel
theorem dyL_law_514 : decode cL_law 514 = .ok (.iload 16, 2) := by decide +kernel
theorem dyL_law_516 : decode cL_law 516 = .ok (.isub, 1) := by decide +kernel
theorem dyL_law_517 : decode cL_law 517 = .ok (.if_icmp .ne 18, 3) := by decide +kernel
theorem dyL_law_520 : decode cL_law 520 = .ok (.aload_n 2, 1) := by decide +kernel
theorem dyL_law_521 : decode cL_law 521 = .ok (.invokevirtual 82, 3) := by decide +kernel
theorem dyL_law_524 : decode cL_law 524 = .ok (.iload 12, 2) := by decide +kernel
theorem dyL_law_526 : decode cL_law 526 = .ok (.iconst 1, 1) := by decide +kernel
theorem dyL_law_527 : decode cL_law 527 = .ok (.isub, 1) := by decide +kernel
theorem dyL_law_528 : decode cL_law 528 = .ok (.if_icmp .ne 7, 3) := by decide +kernel
theorem dyL_law_531 : decode cL_law 531 = .ok (.iconst 1, 1) := by decide +kernel
theorem dyL_law_532 : decode cL_law 532 = .ok (.goto 4, 3) := by decide +kernel
theorem dyL_law_535 : decode cL_law 535 = .ok (.iconst 0, 1) := by decide +kernel
theorem dyL_law_536 : decode cL_law 536 = .ok (.istore_n 3, 1) := by decide +kernel
theorem dyL_law_537 : decode cL_law 537 = .ok (.goto 885, 3) := by decide +kernel
theorem dyL_law_540 : decode cL_law 540 = .ok (.iload 9, 2) := by decide +kernel
theorem dyL_law_542 : decode cL_law 542 = .ok (.ifCond .eq 17, 3) := by decide +kernel
theorem dyL_law_545 : decode cL_law 545 = .ok (.aload_n 2, 1) := by decide +kernel
theorem dyL_law_546 : decode cL_law 546 = .ok (.aload_n 2, 1) := by decide +kernel
theorem dyL_law_547 : decode cL_law 547 = .ok (.iload 13, 2) := by decide +kernel
theorem dyL_law_549 : decode cL_law 549 = .ok (.invokevirtual 96, 3) := by decide +kernel
theorem dyL_law_552 : decode cL_law 552 = .ok (.iconst 1, 1) := by decide +kernel
theorem dyL_law_553 : decode cL_law 553 = .ok (.invokevirtual 46, 3) := by decide +kernel
theorem dyL_law_556 : decode cL_law 556 = .ok (.goto 4, 3) := by decide +kernel
theorem dyL_law_559 : decode cL_law 559 = .ok (.iconst 0, 1) := by decide +kernel
theorem dyL_law_560 : decode cL_law 560 = .ok (.istore 16, 2) := by decide +kernel
theorem dyL_law_562 : decode cL_law 562 = .ok (.aload_n 2, 1) := by decide +kernel
theorem dyL_law_563 : decode cL_law 563 = .ok (.iload 13, 2) := by decide +kernel
theorem dyL_law_565 : decode cL_law 565 = .ok (.invokevirtual 102, 3) := by decide +kernel
theorem dyL_law_568 : decode cL_law 568 = .ok (.istore 15, 2) := by decide +kernel
theorem dyL_law_570 : decode cL_law 570 = .ok (.iload 15, 2) := by decide +kernel
theorem dyL_law_572 : decode cL_law 572 = .ok (.ifCond .lt 39, 3) := by decide +kernel
theorem dyL_law_575 : decode cL_law 575 = .ok (.iload 9, 2) := by decide +kernel
theorem dyL_law_577 : decode cL_law 577 = .ok (.ifCond .eq 84, 3) := by decide +kernel
theorem dyL_law_580 : decode cL_law 580 = .ok (.iload 13, 2) := by decide +kernel
theorem dyL_law_582 : decode cL_law 582 = .ok (.iload 12, 2) := by decide +kernel
theorem dyL_law_584 : decode cL_law 584 = .ok (.if_icmp .ge 77, 3) := by decide +kernel
theorem dyL_law_587 : decode cL_law 587 = .ok (.aload_n 2, 1) := by decide +kernel
theorem dyL_law_588 : decode cL_law 588 = .ok (.iconst 0, 1) := by decide +kernel
theorem dyL_law_589 : decode cL_law 589 = .ok (.invokevirtual 36, 3) := by decide +kernel
theorem dyL_law_592 : decode cL_law 592 = .ok (.iload 5, 2) := by decide +kernel
theorem dyL_law_594 : decode cL_law 594 = .ok (.iload 16, 2) := by decide +kernel
theorem dyL_law_596 : decode cL_law 596 = .ok (.iadd, 1) := by decide +kernel
theorem dyL_law_597 : decode cL_law 597 = .ok (.if_icmp .ne 64, 3) := by decide +kernel
theorem dyL_law_600 : decode cL_law 600 = .ok (.aload_n 2, 1) := by decide +kernel
theorem dyL_law_601 : decode cL_law 601 = .ok (.invokevirtual 82, 3) := by decide +kernel
theorem dyL_law_604 : decode cL_law 604 = .ok (.iload 12, 2) := by decide +kernel
theorem dyL_law_606 : decode cL_law 606 = .ok (.iconst 1, 1) := by decide +kernel
theorem dyL_law_607 : decode cL_law 607 = .ok (.iadd, 1) := by decide +kernel
theorem dyL_law_608 : decode cL_law 608 = .ok (.if_icmp .ne 53, 3) := by decide +kernel
theorem dyL_law_611 : decode cL_law 611 = .ok (.iload 15, 2) := by decide +kernel
theorem dyL_law_613 : decode cL_law 613 = .ok (.ifCond .ge 44, 3) := by decide +kernel
theorem dyL_law_616 : decode cL_law 616 = .ok (.iload 9, 2) := by decide +kernel
theorem dyL_law_618 : decode cL_law 618 = .ok (.ifCond .eq 39, 3) := by decide +kernel
theorem dyL_law_621 : decode cL_law 621 = .ok (.iload 13, 2) := by decide +kernel
theorem dyL_law_623 : decode cL_law 623 = .ok (.iload 12, 2) := by decide +kernel
theorem dyL_law_625 : decode cL_law 625 = .ok (.if_icmp .eq 32, 3) := by decide +kernel
theorem dyL_law_628 : decode cL_law 628 = .ok (.iload 5, 2) := by decide +kernel
theorem dyL_law_630 : decode cL_law 630 = .ok (.iload 16, 2) := by decide +kernel
theorem dyL_law_632 : decode cL_law 632 = .ok (.iadd, 1) := by decide +kernel
theorem dyL_law_633 : decode cL_law 633 = .ok (.sipush 300, 3) := by decide +kernel
theorem dyL_law_636 : decode cL_law 636 = .ok (.if_icmp .gt 21, 3) := by decide +kernel
theorem dyL_law_639 : decode cL_law 639 = .ok (.iload 11, 2) := by decide +kernel
theorem dyL_law_641 : decode cL_law 641 = .ok (.sipush 3000, 3) := by decide +kernel
theorem dyL_law_644 : decode cL_law 644 = .ok (.if_icmp .ge 13, 3) := by decide +kernel
theorem dyL_law_647 : decode cL_law 647 = .ok (.aload_n 2, 1) := by decide +kernel
theorem dyL_law_648 : decode cL_law 648 = .ok (.iconst 1, 1) := by decide +kernel
theorem dyL_law_649 : decode cL_law 649 = .ok (.invokevirtual 36, 3) := by decide +kernel
theorem dyL_law_652 : decode cL_law 652 = .ok (.bipush 50, 2) := by decide +kernel
theorem dyL_law_654 : decode cL_law 654 = .ok (.if_icmp .le 7, 3) := by decide +kernel
theorem dyL_law_657 : decode cL_law 657 = .ok (.iconst 1, 1) := by decide +kernel
theorem dyL_law_658 : decode cL_law 658 = .ok (.goto 4, 3) := by decide +kernel
theorem dyL_law_661 : decode cL_law 661 = .ok (.iconst 0, 1) := by decide +kernel
theorem dyL_law_662 : decode cL_law 662 = .ok (.istore_n 3, 1) := by decide +kernel
theorem dyL_law_663 : decode cL_law 663 = .ok (.goto 759, 3) := by decide +kernel
theorem dyL_law_666 : decode cL_law 666 = .ok (.aload_n 2, 1) := by decide +kernel
theorem dyL_law_667 : decode cL_law 667 = .ok (.iload 13, 2) := by decide +kernel
theorem dyL_law_669 : decode cL_law 669 = .ok (.invokevirtual 105, 3) := by decide +kernel
theorem dyL_law_672 : decode cL_law 672 = .ok (.istore 15, 2) := by decide +kernel
theorem dyL_law_674 : decode cL_law 674 = .ok (.iload 15, 2) := by decide +kernel
theorem dyL_law_676 : decode cL_law 676 = .ok (.ifCond .ne 7, 3) := by decide +kernel
theorem dyL_law_679 : decode cL_law 679 = .ok (.iconst 1, 1) := by decide +kernel
theorem dyL_law_680 : decode cL_law 680 = .ok (.goto 4, 3) := by decide +kernel
theorem dyL_law_683 : decode cL_law 683 = .ok (.iconst 0, 1) := by decide +kernel
theorem dyL_law_684 : decode cL_law 684 = .ok (.iload 9, 2) := by decide +kernel
theorem dyL_law_686 : decode cL_law 686 = .ok (.ifCond .eq 24, 3) := by decide +kernel
theorem dyL_law_689 : decode cL_law 689 = .ok (.iload 13, 2) := by decide +kernel
theorem dyL_law_691 : decode cL_law 691 = .ok (.iconst 1, 1) := by decide +kernel
theorem dyL_law_692 : decode cL_law 692 = .ok (.iadd, 1) := by decide +kernel
theorem dyL_law_693 : decode cL_law 693 = .ok (.iload 12, 2) := by decide +kernel
theorem dyL_law_695 : decode cL_law 695 = .ok (.if_icmp .ge 15, 3) := by decide +kernel
theorem dyL_law_698 : decode cL_law 698 = .ok (.iload 11, 2) := by decide +kernel
theorem dyL_law_700 : decode cL_law 700 = .ok (.sipush 3000, 3) := by decide +kernel
theorem dyL_law_703 : decode cL_law 703 = .ok (.if_icmp .ge 7, 3) := by decide +kernel
theorem dyL_law_706 : decode cL_law 706 = .ok (.iconst 1, 1) := by decide +kernel
theorem dyL_law_707 : decode cL_law 707 = .ok (.goto 4, 3) := by decide +kernel
theorem dyL_law_710 : decode cL_law 710 = .ok (.iconst 0, 1) := by decide +kernel
theorem dyL_law_711 : decode cL_law 711 = .ok (.if_icmp .ne 31, 3) := by decide +kernel
theorem dyL_law_714 : decode cL_law 714 = .ok (.iload 15, 2) := by decide +kernel
theorem dyL_law_716 : decode cL_law 716 = .ok (.ifCond .lt 22, 3) := by decide +kernel
theorem dyL_law_719 : decode cL_law 719 = .ok (.aload_n 2, 1) := by decide +kernel
theorem dyL_law_720 : decode cL_law 720 = .ok (.iconst 0, 1) := by decide +kernel
theorem dyL_law_721 : decode cL_law 721 = .ok (.invokevirtual 36, 3) := by decide +kernel
theorem dyL_law_724 : decode cL_law 724 = .ok (.iload 5, 2) := by decide +kernel
theorem dyL_law_726 : decode cL_law 726 = .ok (.if_icmp .ne 16, 3) := by decide +kernel
theorem dyL_law_729 : decode cL_law 729 = .ok (.aload_n 2, 1) := by decide +kernel
theorem dyL_law_730 : decode cL_law 730 = .ok (.invokevirtual 82, 3) := by decide +kernel
theorem dyL_law_733 : decode cL_law 733 = .ok (.iload 12, 2) := by decide +kernel
theorem dyL_law_735 : decode cL_law 735 = .ok (.if_icmp .ne 7, 3) := by decide +kernel
theorem dyL_law_738 : decode cL_law 738 = .ok (.iconst 1, 1) := by decide +kernel
theorem dyL_law_739 : decode cL_law 739 = .ok (.goto 4, 3) := by decide +kernel
theorem dyL_law_742 : decode cL_law 742 = .ok (.iconst 0, 1) := by decide +kernel
theorem dyL_law_743 : decode cL_law 743 = .ok (.istore_n 3, 1) := by decide +kernel
theorem dyL_law_744 : decode cL_law 744 = .ok (.goto 678, 3) := by decide +kernel
theorem dyL_law_747 : decode cL_law 747 = .ok (.aload_n 1, 1) := by decide +kernel
theorem dyL_law_748 : decode cL_law 748 = .ok (.iload 4, 2) := by decide +kernel
theorem dyL_law_750 : decode cL_law 750 = .ok (.iaload, 1) := by decide +kernel
theorem dyL_law_751 : decode cL_law 751 = .ok (.iconst 4, 1) := by decide +kernel
theorem dyL_law_752 : decode cL_law 752 = .ok (.ishr, 1) := by decide +kernel
theorem dyL_law_753 : decode cL_law 753 = .ok (.sipush 255, 3) := by decide +kernel
theorem dyL_law_756 : decode cL_law 756 = .ok (.iand, 1) := by decide +kernel
theorem dyL_law_757 : decode cL_law 757 = .ok (.aload_n 2, 1) := by decide +kernel
theorem dyL_law_758 : decode cL_law 758 = .ok (.iconst 3, 1) := by decide +kernel
theorem dyL_law_759 : decode cL_law 759 = .ok (.invokevirtual 36, 3) := by decide +kernel
theorem dyL_law_762 : decode cL_law 762 = .ok (.irem, 1) := by decide +kernel
theorem dyL_law_763 : decode cL_law 763 = .ok (.istore 16, 2) := by decide +kernel
theorem dyL_law_765 : decode cL_law 765 = .ok (.iload 9, 2) := by decide +kernel
theorem dyL_law_767 : decode cL_law 767 = .ok (.ifCond .eq 17, 3) := by decide +kernel
theorem dyL_law_770 : decode cL_law 770 = .ok (.aload_n 2, 1) := by decide +kernel
theorem dyL_law_771 : decode cL_law 771 = .ok (.iload 16, 2) := by decide +kernel
theorem dyL_law_773 : decode cL_law 773 = .ok (.iconst 0, 1) := by decide +kernel
theorem dyL_law_774 : decode cL_law 774 = .ok (.invokevirtual 108, 3) := by decide +kernel
theorem dyL_law_777 : decode cL_law 777 = .ok (.ifCond .ne 7, 3) := by decide +kernel
theorem dyL_law_780 : decode cL_law 780 = .ok (.iconst 1, 1) := by decide +kernel
theorem dyL_law_781 : decode cL_law 781 = .ok (.goto 4, 3) := by decide +kernel
theorem dyL_law_784 : decode cL_law 784 = .ok (.iconst 0, 1) := by decide +kernel
theorem dyL_law_785 : decode cL_law 785 = .ok (.istore 17, 2) := by decide +kernel
theorem dyL_law_787 : decode cL_law 787 = .ok (.aload_n 2, 1) := by decide +kernel
theorem dyL_law_788 : decode cL_law 788 = .ok (.iload 16, 2) := by decide +kernel
theorem dyL_law_790 : decode cL_law 790 = .ok (.invokevirtual 111, 3) := by decide +kernel
theorem dyL_law_793 : decode cL_law 793 = .ok (.istore 18, 2) := by decide +kernel
theorem dyL_law_795 : decode cL_law 795 = .ok (.aload_n 2, 1) := by decide +kernel
theorem dyL_law_796 : decode cL_law 796 = .ok (.iload 16, 2) := by decide +kernel
theorem dyL_law_798 : decode cL_law 798 = .ok (.invokevirtual 114, 3) := by decide +kernel
theorem dyL_law_801 : decode cL_law 801 = .ok (.istore 19, 2) := by decide +kernel
theorem dyL_law_803 : decode cL_law 803 = .ok (.aload_n 2, 1) := by decide +kernel
theorem dyL_law_804 : decode cL_law 804 = .ok (.invokevirtual 117, 3) := by decide +kernel
theorem dyL_law_807 : decode cL_law 807 = .ok (.istore 20, 2) := by decide +kernel
theorem dyL_law_809 : decode cL_law 809 = .ok (.iconst 3, 1) := by decide +kernel
theorem dyL_law_810 : decode cL_law 810 = .ok (.newarray .int, 2) := by decide +kernel
theorem dyL_law_812 : decode cL_law 812 = .ok (.dup, 1) := by decide +kernel
theorem dyL_law_813 : decode cL_law 813 = .ok (.iconst 0, 1) := by decide +kernel
theorem dyL_law_814 : decode cL_law 814 = .ok (.bipush 122, 2) := by decide +kernel
theorem dyL_law_816 : decode cL_law 816 = .ok (.iastore, 1) := by decide +kernel
theorem dyL_law_817 : decode cL_law 817 = .ok (.dup, 1) := by decide +kernel
theorem dyL_law_818 : decode cL_law 818 = .ok (.iconst 1, 1) := by decide +kernel
theorem dyL_law_819 : decode cL_law 819 = .ok (.bipush 122, 2) := by decide +kernel
theorem dyL_law_821 : decode cL_law 821 = .ok (.iastore, 1) := by decide +kernel
theorem dyL_law_822 : decode cL_law 822 = .ok (.dup, 1) := by decide +kernel
theorem dyL_law_823 : decode cL_law 823 = .ok (.iconst 2, 1) := by decide +kernel
theorem dyL_law_824 : decode cL_law 824 = .ok (.bipush 97, 2) := by decide +kernel
theorem dyL_law_826 : decode cL_law 826 = .ok (.aload_n 1, 1) := by decide +kernel
theorem dyL_law_827 : decode cL_law 827 = .ok (.iload 4, 2) := by decide +kernel
theorem dyL_law_829 : decode cL_law 829 = .ok (.iaload, 1) := by decide +kernel
theorem dyL_law_830 : decode cL_law 830 = .ok (.bipush 12, 2) := by decide +kernel
theorem dyL_law_832 : decode cL_law 832 = .ok (.ishr, 1) := by decide +kernel
theorem dyL_law_833 : decode cL_law 833 = .ok (.bipush 7, 2) := by decide +kernel
theorem dyL_law_835 : decode cL_law 835 = .ok (.iand, 1) := by decide +kernel
theorem dyL_law_836 : decode cL_law 836 = .ok (.iadd, 1) := by decide +kernel
