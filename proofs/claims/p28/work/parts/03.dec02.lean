theorem dL_act_493 : decode cL_act 493 = .ok (.iconst 5, 1) := by decide +kernel
theorem dL_act_494 : decode cL_act 494 = .ok (.invokestatic 59, 3) := by decide +kernel
theorem dL_act_497 : decode cL_act 497 = .ok (.iconst 0, 1) := by decide +kernel
theorem dL_act_498 : decode cL_act 498 = .ok (.iconst 0, 1) := by decide +kernel
theorem dL_act_499 : decode cL_act 499 = .ok (.invokestatic 129, 3) := by decide +kernel
theorem dL_act_502 : decode cL_act 502 = .ok (.goto 49, 3) := by decide +kernel
theorem dL_act_505 : decode cL_act 505 = .ok (.aload_n 1, 1) := by decide +kernel
theorem dL_act_506 : decode cL_act 506 = .ok (.iconst 3, 1) := by decide +kernel
theorem dL_act_507 : decode cL_act 507 = .ok (.iaload, 1) := by decide +kernel
theorem dL_act_508 : decode cL_act 508 = .ok (.ifCond .ge 8, 3) := by decide +kernel
theorem dL_act_511 : decode cL_act 511 = .ok (.bipush (-9), 2) := by decide +kernel
theorem dL_act_513 : decode cL_act 513 = .ok (.goto 38, 3) := by decide +kernel
theorem dL_act_516 : decode cL_act 516 = .ok (.aload_n 1, 1) := by decide +kernel
theorem dL_act_517 : decode cL_act 517 = .ok (.aload_n 0, 1) := by decide +kernel
theorem dL_act_518 : decode cL_act 518 = .ok (.iload_n 2, 1) := by decide +kernel
theorem dL_act_519 : decode cL_act 519 = .ok (.iconst 5, 1) := by decide +kernel
theorem dL_act_520 : decode cL_act 520 = .ok (.invokestatic 59, 3) := by decide +kernel
theorem dL_act_523 : decode cL_act 523 = .ok (.iload_n 2, 1) := by decide +kernel
theorem dL_act_524 : decode cL_act 524 = .ok (.iconst 3, 1) := by decide +kernel
theorem dL_act_525 : decode cL_act 525 = .ok (.ishr, 1) := by decide +kernel
theorem dL_act_526 : decode cL_act 526 = .ok (.aload_n 1, 1) := by decide +kernel
theorem dL_act_527 : decode cL_act 527 = .ok (.iconst 3, 1) := by decide +kernel
theorem dL_act_528 : decode cL_act 528 = .ok (.iaload, 1) := by decide +kernel
theorem dL_act_529 : decode cL_act 529 = .ok (.iconst 1, 1) := by decide +kernel
theorem dL_act_530 : decode cL_act 530 = .ok (.iadd, 1) := by decide +kernel
theorem dL_act_531 : decode cL_act 531 = .ok (.invokestatic 59, 3) := by decide +kernel
theorem dL_act_534 : decode cL_act 534 = .ok (.iload_n 2, 1) := by decide +kernel
theorem dL_act_535 : decode cL_act 535 = .ok (.iconst 5, 1) := by decide +kernel
theorem dL_act_536 : decode cL_act 536 = .ok (.ishr, 1) := by decide +kernel
theorem dL_act_537 : decode cL_act 537 = .ok (.aload_n 1, 1) := by decide +kernel
theorem dL_act_538 : decode cL_act 538 = .ok (.iconst 3, 1) := by decide +kernel
theorem dL_act_539 : decode cL_act 539 = .ok (.iaload, 1) := by decide +kernel
theorem dL_act_540 : decode cL_act 540 = .ok (.iconst 1, 1) := by decide +kernel
theorem dL_act_541 : decode cL_act 541 = .ok (.iadd, 1) := by decide +kernel
theorem dL_act_542 : decode cL_act 542 = .ok (.invokestatic 59, 3) := by decide +kernel
theorem dL_act_545 : decode cL_act 545 = .ok (.invokestatic 129, 3) := by decide +kernel
theorem dL_act_548 : decode cL_act 548 = .ok (.invokestatic 132, 3) := by decide +kernel
theorem dL_act_551 : decode cL_act 551 = .ok (.ireturn, 1) := by decide +kernel
theorem dL_act_552 : decode cL_act 552 = .ok (.aload_n 0, 1) := by decide +kernel
theorem dL_act_553 : decode cL_act 553 = .ok (.iload_n 2, 1) := by decide +kernel
theorem dL_act_554 : decode cL_act 554 = .ok (.iconst 3, 1) := by decide +kernel
theorem dL_act_555 : decode cL_act 555 = .ok (.ishr, 1) := by decide +kernel
theorem dL_act_556 : decode cL_act 556 = .ok (.aload_n 1, 1) := by decide +kernel
theorem dL_act_557 : decode cL_act 557 = .ok (.iconst 3, 1) := by decide +kernel
theorem dL_act_558 : decode cL_act 558 = .ok (.iaload, 1) := by decide +kernel
theorem dL_act_559 : decode cL_act 559 = .ok (.invokestatic 59, 3) := by decide +kernel
theorem dL_act_562 : decode cL_act 562 = .ok (.iload 4, 2) := by decide +kernel
theorem dL_act_564 : decode cL_act 564 = .ok (.iload_n 2, 1) := by decide +kernel
theorem dL_act_565 : decode cL_act 565 = .ok (.iconst 5, 1) := by decide +kernel
theorem dL_act_566 : decode cL_act 566 = .ok (.ishr, 1) := by decide +kernel
theorem dL_act_567 : decode cL_act 567 = .ok (.iconst 3, 1) := by decide +kernel
theorem dL_act_568 : decode cL_act 568 = .ok (.invokestatic 59, 3) := by decide +kernel
theorem dL_act_571 : decode cL_act 571 = .ok (.invokevirtual 136, 3) := by decide +kernel
theorem dL_act_574 : decode cL_act 574 = .ok (.ireturn, 1) := by decide +kernel
theorem dL_act_575 : decode cL_act 575 = .ok (.aload_n 0, 1) := by decide +kernel
theorem dL_act_576 : decode cL_act 576 = .ok (.iload_n 2, 1) := by decide +kernel
theorem dL_act_577 : decode cL_act 577 = .ok (.aload_n 1, 1) := by decide +kernel
theorem dL_act_578 : decode cL_act 578 = .ok (.iconst 0, 1) := by decide +kernel
theorem dL_act_579 : decode cL_act 579 = .ok (.iaload, 1) := by decide +kernel
theorem dL_act_580 : decode cL_act 580 = .ok (.iconst 1, 1) := by decide +kernel
theorem dL_act_581 : decode cL_act 581 = .ok (.iadd, 1) := by decide +kernel
theorem dL_act_582 : decode cL_act 582 = .ok (.invokestatic 59, 3) := by decide +kernel
theorem dL_act_585 : decode cL_act 585 = .ok (.iload_n 2, 1) := by decide +kernel
theorem dL_act_586 : decode cL_act 586 = .ok (.iconst 3, 1) := by decide +kernel
theorem dL_act_587 : decode cL_act 587 = .ok (.ishr, 1) := by decide +kernel
theorem dL_act_588 : decode cL_act 588 = .ok (.aload_n 1, 1) := by decide +kernel
theorem dL_act_589 : decode cL_act 589 = .ok (.iconst 1, 1) := by decide +kernel
theorem dL_act_590 : decode cL_act 590 = .ok (.iaload, 1) := by decide +kernel
theorem dL_act_591 : decode cL_act 591 = .ok (.invokestatic 59, 3) := by decide +kernel
theorem dL_act_594 : decode cL_act 594 = .ok (.iload_n 2, 1) := by decide +kernel
theorem dL_act_595 : decode cL_act 595 = .ok (.iconst 5, 1) := by decide +kernel
theorem dL_act_596 : decode cL_act 596 = .ok (.ishr, 1) := by decide +kernel
theorem dL_act_597 : decode cL_act 597 = .ok (.aload_n 1, 1) := by decide +kernel
theorem dL_act_598 : decode cL_act 598 = .ok (.iconst 2, 1) := by decide +kernel
theorem dL_act_599 : decode cL_act 599 = .ok (.iaload, 1) := by decide +kernel
theorem dL_act_600 : decode cL_act 600 = .ok (.invokestatic 59, 3) := by decide +kernel
theorem dL_act_603 : decode cL_act 603 = .ok (.iload_n 2, 1) := by decide +kernel
theorem dL_act_604 : decode cL_act 604 = .ok (.bipush 7, 2) := by decide +kernel
theorem dL_act_606 : decode cL_act 606 = .ok (.ishr, 1) := by decide +kernel
theorem dL_act_607 : decode cL_act 607 = .ok (.aload_n 1, 1) := by decide +kernel
theorem dL_act_608 : decode cL_act 608 = .ok (.iconst 3, 1) := by decide +kernel
theorem dL_act_609 : decode cL_act 609 = .ok (.iaload, 1) := by decide +kernel
theorem dL_act_610 : decode cL_act 610 = .ok (.invokestatic 59, 3) := by decide +kernel
theorem dL_act_613 : decode cL_act 613 = .ok (.iload_n 2, 1) := by decide +kernel
theorem dL_act_614 : decode cL_act 614 = .ok (.iconst 4, 1) := by decide +kernel
theorem dL_act_615 : decode cL_act 615 = .ok (.ishr, 1) := by decide +kernel
theorem dL_act_616 : decode cL_act 616 = .ok (.sipush 2000, 3) := by decide +kernel
theorem dL_act_619 : decode cL_act 619 = .ok (.invokestatic 59, 3) := by decide +kernel
theorem dL_act_622 : decode cL_act 622 = .ok (.bipush 9, 2) := by decide +kernel
theorem dL_act_624 : decode cL_act 624 = .ok (.isub, 1) := by decide +kernel
theorem dL_act_625 : decode cL_act 625 = .ok (.iload_n 2, 1) := by decide +kernel
theorem dL_act_626 : decode cL_act 626 = .ok (.bipush 8, 2) := by decide +kernel
theorem dL_act_628 : decode cL_act 628 = .ok (.ishr, 1) := by decide +kernel
theorem dL_act_629 : decode cL_act 629 = .ok (.iconst 4, 1) := by decide +kernel
theorem dL_act_630 : decode cL_act 630 = .ok (.invokestatic 59, 3) := by decide +kernel
theorem dL_act_633 : decode cL_act 633 = .ok (.invokestatic 139, 3) := by decide +kernel
theorem dL_act_636 : decode cL_act 636 = .ok (.ireturn, 1) := by decide +kernel
theorem dL_act_637 : decode cL_act 637 = .ok (.iload_n 2, 1) := by decide +kernel
theorem dL_act_638 : decode cL_act 638 = .ok (.iconst 2, 1) := by decide +kernel
theorem dL_act_639 : decode cL_act 639 = .ok (.invokestatic 59, 3) := by decide +kernel
theorem dL_act_642 : decode cL_act 642 = .ok (.ifCond .ne 10, 3) := by decide +kernel
theorem dL_act_645 : decode cL_act 645 = .ok (.aload_n 0, 1) := by decide +kernel
theorem dL_act_646 : decode cL_act 646 = .ok (.invokestatic 143, 3) := by decide +kernel
theorem dL_act_649 : decode cL_act 649 = .ok (.goto 22, 3) := by decide +kernel
theorem dL_act_652 : decode cL_act 652 = .ok (.aload_n 0, 1) := by decide +kernel
theorem dL_act_653 : decode cL_act 653 = .ok (.iload_n 2, 1) := by decide +kernel
theorem dL_act_654 : decode cL_act 654 = .ok (.iconst 2, 1) := by decide +kernel
theorem dL_act_655 : decode cL_act 655 = .ok (.ishr, 1) := by decide +kernel
theorem dL_act_656 : decode cL_act 656 = .ok (.iconst 2, 1) := by decide +kernel
theorem dL_act_657 : decode cL_act 657 = .ok (.invokestatic 59, 3) := by decide +kernel
theorem dL_act_660 : decode cL_act 660 = .ok (.ifCond .ne 7, 3) := by decide +kernel
theorem dL_act_663 : decode cL_act 663 = .ok (.iconst 1, 1) := by decide +kernel
theorem dL_act_664 : decode cL_act 664 = .ok (.goto 4, 3) := by decide +kernel
theorem dL_act_667 : decode cL_act 667 = .ok (.iconst 0, 1) := by decide +kernel
theorem dL_act_668 : decode cL_act 668 = .ok (.invokestatic 147, 3) := by decide +kernel
theorem dL_act_671 : decode cL_act 671 = .ok (.ireturn, 1) := by decide +kernel
theorem dL_act_672 : decode cL_act 672 = .ok (.aload_n 0, 1) := by decide +kernel
theorem dL_act_673 : decode cL_act 673 = .ok (.iload_n 2, 1) := by decide +kernel
theorem dL_act_674 : decode cL_act 674 = .ok (.aload_n 1, 1) := by decide +kernel
theorem dL_act_675 : decode cL_act 675 = .ok (.iconst 0, 1) := by decide +kernel
theorem dL_act_676 : decode cL_act 676 = .ok (.iaload, 1) := by decide +kernel
theorem dL_act_677 : decode cL_act 677 = .ok (.iconst 1, 1) := by decide +kernel
theorem dL_act_678 : decode cL_act 678 = .ok (.iadd, 1) := by decide +kernel
theorem dL_act_679 : decode cL_act 679 = .ok (.invokestatic 59, 3) := by decide +kernel
theorem dL_act_682 : decode cL_act 682 = .ok (.iload_n 2, 1) := by decide +kernel
theorem dL_act_683 : decode cL_act 683 = .ok (.iconst 3, 1) := by decide +kernel
theorem dL_act_684 : decode cL_act 684 = .ok (.ishr, 1) := by decide +kernel
theorem dL_act_685 : decode cL_act 685 = .ok (.aload_n 1, 1) := by decide +kernel
theorem dL_act_686 : decode cL_act 686 = .ok (.iconst 1, 1) := by decide +kernel
theorem dL_act_687 : decode cL_act 687 = .ok (.iaload, 1) := by decide +kernel
theorem dL_act_688 : decode cL_act 688 = .ok (.invokestatic 59, 3) := by decide +kernel
theorem dL_act_691 : decode cL_act 691 = .ok (.iload_n 2, 1) := by decide +kernel
theorem dL_act_692 : decode cL_act 692 = .ok (.iconst 5, 1) := by decide +kernel
theorem dL_act_693 : decode cL_act 693 = .ok (.ishr, 1) := by decide +kernel
theorem dL_act_694 : decode cL_act 694 = .ok (.aload_n 1, 1) := by decide +kernel
theorem dL_act_695 : decode cL_act 695 = .ok (.iconst 2, 1) := by decide +kernel
theorem dL_act_696 : decode cL_act 696 = .ok (.iaload, 1) := by decide +kernel
theorem dL_act_697 : decode cL_act 697 = .ok (.invokestatic 59, 3) := by decide +kernel
theorem dL_act_700 : decode cL_act 700 = .ok (.iload_n 2, 1) := by decide +kernel
theorem dL_act_701 : decode cL_act 701 = .ok (.bipush 7, 2) := by decide +kernel
theorem dL_act_703 : decode cL_act 703 = .ok (.ishr, 1) := by decide +kernel
theorem dL_act_704 : decode cL_act 704 = .ok (.aload_n 1, 1) := by decide +kernel
theorem dL_act_705 : decode cL_act 705 = .ok (.iconst 3, 1) := by decide +kernel
theorem dL_act_706 : decode cL_act 706 = .ok (.iaload, 1) := by decide +kernel
theorem dL_act_707 : decode cL_act 707 = .ok (.iconst 1, 1) := by decide +kernel
theorem dL_act_708 : decode cL_act 708 = .ok (.iadd, 1) := by decide +kernel
theorem dL_act_709 : decode cL_act 709 = .ok (.invokestatic 59, 3) := by decide +kernel
theorem dL_act_712 : decode cL_act 712 = .ok (.iload_n 2, 1) := by decide +kernel
theorem dL_act_713 : decode cL_act 713 = .ok (.iconst 4, 1) := by decide +kernel
theorem dL_act_714 : decode cL_act 714 = .ok (.ishr, 1) := by decide +kernel
theorem dL_act_715 : decode cL_act 715 = .ok (.sipush 3000, 3) := by decide +kernel
theorem dL_act_718 : decode cL_act 718 = .ok (.invokestatic 59, 3) := by decide +kernel
theorem dL_act_721 : decode cL_act 721 = .ok (.sipush 1000, 3) := by decide +kernel
theorem dL_act_724 : decode cL_act 724 = .ok (.isub, 1) := by decide +kernel
theorem dL_act_725 : decode cL_act 725 = .ok (.invokestatic 151, 3) := by decide +kernel
theorem dL_act_728 : decode cL_act 728 = .ok (.ireturn, 1) := by decide +kernel
theorem dL_grow_0 : decode cL_grow 0 = .ok (.aload_n 0, 1) := by decide +kernel
theorem dL_grow_1 : decode cL_grow 1 = .ok (.iconst 3, 1) := by decide +kernel
theorem dL_grow_2 : decode cL_grow 2 = .ok (.dup2, 1) := by decide +kernel
theorem dL_grow_3 : decode cL_grow 3 = .ok (.iaload, 1) := by decide +kernel
theorem dL_grow_4 : decode cL_grow 4 = .ok (.iload_n 1, 1) := by decide +kernel
theorem dL_grow_5 : decode cL_grow 5 = .ok (.ifCond .ge 7, 3) := by decide +kernel
theorem dL_grow_8 : decode cL_grow 8 = .ok (.iconst 0, 1) := by decide +kernel
theorem dL_grow_9 : decode cL_grow 9 = .ok (.goto 4, 3) := by decide +kernel
theorem dL_grow_12 : decode cL_grow 12 = .ok (.iconst 1, 1) := by decide +kernel
theorem dL_grow_13 : decode cL_grow 13 = .ok (.iadd, 1) := by decide +kernel
theorem dL_grow_14 : decode cL_grow 14 = .ok (.iastore, 1) := by decide +kernel
theorem dL_grow_15 : decode cL_grow 15 = .ok (.iload_n 1, 1) := by decide +kernel
theorem dL_grow_16 : decode cL_grow 16 = .ok (.ireturn, 1) := by decide +kernel
theorem dL_law_0 : decode cL_law 0 = .ok (.new 10, 3) := by decide +kernel
theorem dL_law_3 : decode cL_law 3 = .ok (.dup, 1) := by decide +kernel
theorem dL_law_4 : decode cL_law 4 = .ok (.invokespecial 153, 3) := by decide +kernel
theorem dL_law_7 : decode cL_law 7 = .ok (.astore_n 1, 1) := by decide +kernel
theorem dL_law_8 : decode cL_law 8 = .ok (.iconst 5, 1) := by decide +kernel
theorem dL_law_9 : decode cL_law 9 = .ok (.newarray .int, 2) := by decide +kernel
theorem dL_law_11 : decode cL_law 11 = .ok (.astore_n 2, 1) := by decide +kernel
theorem dL_law_12 : decode cL_law 12 = .ok (.iconst 0, 1) := by decide +kernel
theorem dL_law_13 : decode cL_law 13 = .ok (.istore_n 3, 1) := by decide +kernel
theorem dL_law_14 : decode cL_law 14 = .ok (.iload_n 3, 1) := by decide +kernel
theorem dL_law_15 : decode cL_law 15 = .ok (.iconst 3, 1) := by decide +kernel
theorem dL_law_16 : decode cL_law 16 = .ok (.if_icmp .ge 26, 3) := by decide +kernel
theorem dL_law_19 : decode cL_law 19 = .ok (.aload_n 2, 1) := by decide +kernel
theorem dL_law_20 : decode cL_law 20 = .ok (.iload_n 3, 1) := by decide +kernel
theorem dL_law_21 : decode cL_law 21 = .ok (.iconst 2, 1) := by decide +kernel
theorem dL_law_22 : decode cL_law 22 = .ok (.iastore, 1) := by decide +kernel
theorem dL_law_23 : decode cL_law 23 = .ok (.aload_n 1, 1) := by decide +kernel
theorem dL_law_24 : decode cL_law 24 = .ok (.iload_n 3, 1) := by decide +kernel
theorem dL_law_25 : decode cL_law 25 = .ok (.iconst 0, 1) := by decide +kernel
theorem dL_law_26 : decode cL_law 26 = .ok (.iconst 1, 1) := by decide +kernel
theorem dL_law_27 : decode cL_law 27 = .ok (.invokevirtual 9, 3) := by decide +kernel
theorem dL_law_30 : decode cL_law 30 = .ok (.iconst 1, 1) := by decide +kernel
theorem dL_law_31 : decode cL_law 31 = .ok (.if_icmp .eq 5, 3) := by decide +kernel
theorem dL_law_34 : decode cL_law 34 = .ok (.iconst 0, 1) := by decide +kernel
theorem dL_law_35 : decode cL_law 35 = .ok (.ireturn, 1) := by decide +kernel
theorem dL_law_36 : decode cL_law 36 = .ok (.iinc 3 1, 3) := by decide +kernel
theorem dL_law_39 : decode cL_law 39 = .ok (.goto (-25), 3) := by decide +kernel
theorem dL_law_42 : decode cL_law 42 = .ok (.aload_n 2, 1) := by decide +kernel
theorem dL_law_43 : decode cL_law 43 = .ok (.iconst 3, 1) := by decide +kernel
theorem dL_law_44 : decode cL_law 44 = .ok (.iconst 2, 1) := by decide +kernel
theorem dL_law_45 : decode cL_law 45 = .ok (.iastore, 1) := by decide +kernel
theorem dL_law_46 : decode cL_law 46 = .ok (.aload_n 1, 1) := by decide +kernel
theorem dL_law_47 : decode cL_law 47 = .ok (.iconst 0, 1) := by decide +kernel
theorem dL_law_48 : decode cL_law 48 = .ok (.iconst 0, 1) := by decide +kernel
theorem dL_law_49 : decode cL_law 49 = .ok (.iconst 0, 1) := by decide +kernel
theorem dL_law_50 : decode cL_law 50 = .ok (.invokevirtual 35, 3) := by decide +kernel
theorem dL_law_53 : decode cL_law 53 = .ok (.ifCond .ne 14, 3) := by decide +kernel
theorem dL_law_56 : decode cL_law 56 = .ok (.aload_n 1, 1) := by decide +kernel
theorem dL_law_57 : decode cL_law 57 = .ok (.iconst 1, 1) := by decide +kernel
theorem dL_law_58 : decode cL_law 58 = .ok (.iconst 0, 1) := by decide +kernel
theorem dL_law_59 : decode cL_law 59 = .ok (.iconst 0, 1) := by decide +kernel
theorem dL_law_60 : decode cL_law 60 = .ok (.invokevirtual 35, 3) := by decide +kernel
theorem dL_law_63 : decode cL_law 63 = .ok (.iconst 1, 1) := by decide +kernel
theorem dL_law_64 : decode cL_law 64 = .ok (.if_icmp .eq 5, 3) := by decide +kernel
theorem dL_law_67 : decode cL_law 67 = .ok (.iconst 0, 1) := by decide +kernel
theorem dL_law_68 : decode cL_law 68 = .ok (.ireturn, 1) := by decide +kernel
theorem dL_law_69 : decode cL_law 69 = .ok (.iconst 0, 1) := by decide +kernel
theorem dL_law_70 : decode cL_law 70 = .ok (.istore_n 3, 1) := by decide +kernel
theorem dL_law_71 : decode cL_law 71 = .ok (.iload_n 3, 1) := by decide +kernel
theorem dL_law_72 : decode cL_law 72 = .ok (.bipush 36, 2) := by decide +kernel
theorem dL_law_74 : decode cL_law 74 = .ok (.if_icmp .ge 92, 3) := by decide +kernel
theorem dL_law_77 : decode cL_law 77 = .ok (.aload_n 0, 1) := by decide +kernel
theorem dL_law_78 : decode cL_law 78 = .ok (.iconst 2, 1) := by decide +kernel
theorem dL_law_79 : decode cL_law 79 = .ok (.iload_n 3, 1) := by decide +kernel
theorem dL_law_80 : decode cL_law 80 = .ok (.imul, 1) := by decide +kernel
theorem dL_law_81 : decode cL_law 81 = .ok (.invokestatic 154, 3) := by decide +kernel
theorem dL_law_84 : decode cL_law 84 = .ok (.istore 4, 2) := by decide +kernel
theorem dL_law_86 : decode cL_law 86 = .ok (.aload_n 0, 1) := by decide +kernel
theorem dL_law_87 : decode cL_law 87 = .ok (.iconst 2, 1) := by decide +kernel
theorem dL_law_88 : decode cL_law 88 = .ok (.iload_n 3, 1) := by decide +kernel
theorem dL_law_89 : decode cL_law 89 = .ok (.imul, 1) := by decide +kernel
theorem dL_law_90 : decode cL_law 90 = .ok (.iconst 1, 1) := by decide +kernel
theorem dL_law_91 : decode cL_law 91 = .ok (.iadd, 1) := by decide +kernel
theorem dL_law_92 : decode cL_law 92 = .ok (.invokestatic 154, 3) := by decide +kernel
theorem dL_law_95 : decode cL_law 95 = .ok (.istore 5, 2) := by decide +kernel
theorem dL_law_97 : decode cL_law 97 = .ok (.aload_n 1, 1) := by decide +kernel
theorem dL_law_98 : decode cL_law 98 = .ok (.aload_n 2, 1) := by decide +kernel
theorem dL_law_99 : decode cL_law 99 = .ok (.invokestatic 156, 3) := by decide +kernel
theorem dL_law_102 : decode cL_law 102 = .ok (.astore 6, 2) := by decide +kernel
theorem dL_law_104 : decode cL_law 104 = .ok (.aload_n 1, 1) := by decide +kernel
theorem dL_law_105 : decode cL_law 105 = .ok (.aload_n 2, 1) := by decide +kernel
theorem dL_law_106 : decode cL_law 106 = .ok (.iload 5, 2) := by decide +kernel
theorem dL_law_108 : decode cL_law 108 = .ok (.iload 4, 2) := by decide +kernel
theorem dL_law_110 : decode cL_law 110 = .ok (.iconst 3, 1) := by decide +kernel
theorem dL_law_111 : decode cL_law 111 = .ok (.ishr, 1) := by decide +kernel
theorem dL_law_112 : decode cL_law 112 = .ok (.bipush 17, 2) := by decide +kernel
theorem dL_law_114 : decode cL_law 114 = .ok (.invokestatic 59, 3) := by decide +kernel
theorem dL_law_117 : decode cL_law 117 = .ok (.invokestatic 160, 3) := by decide +kernel
theorem dL_law_120 : decode cL_law 120 = .ok (.istore 7, 2) := by decide +kernel
theorem dL_law_122 : decode cL_law 122 = .ok (.iload 7, 2) := by decide +kernel
theorem dL_law_124 : decode cL_law 124 = .ok (.iconst (-1), 1) := by decide +kernel
theorem dL_law_125 : decode cL_law 125 = .ok (.if_icmp .ge 23, 3) := by decide +kernel
theorem dL_law_128 : decode cL_law 128 = .ok (.iload 7, 2) := by decide +kernel
theorem dL_law_130 : decode cL_law 130 = .ok (.bipush (-9), 2) := by decide +kernel
theorem dL_law_132 : decode cL_law 132 = .ok (.if_icmp .le 16, 3) := by decide +kernel
theorem dL_law_135 : decode cL_law 135 = .ok (.aload 6, 2) := by decide +kernel
theorem dL_law_137 : decode cL_law 137 = .ok (.aload_n 1, 1) := by decide +kernel
theorem dL_law_138 : decode cL_law 138 = .ok (.aload_n 2, 1) := by decide +kernel
theorem dL_law_139 : decode cL_law 139 = .ok (.invokestatic 156, 3) := by decide +kernel
theorem dL_law_142 : decode cL_law 142 = .ok (.invokestatic 164, 3) := by decide +kernel
theorem dL_law_145 : decode cL_law 145 = .ok (.ifCond .eq 13, 3) := by decide +kernel
theorem dL_law_148 : decode cL_law 148 = .ok (.aload_n 1, 1) := by decide +kernel
theorem dL_law_149 : decode cL_law 149 = .ok (.aload_n 2, 1) := by decide +kernel
theorem dL_law_150 : decode cL_law 150 = .ok (.iload 4, 2) := by decide +kernel
theorem dL_law_152 : decode cL_law 152 = .ok (.invokestatic 168, 3) := by decide +kernel
theorem dL_law_155 : decode cL_law 155 = .ok (.ifCond .ne 5, 3) := by decide +kernel
theorem dL_law_158 : decode cL_law 158 = .ok (.iconst 0, 1) := by decide +kernel
theorem dL_law_159 : decode cL_law 159 = .ok (.ireturn, 1) := by decide +kernel
theorem dL_law_160 : decode cL_law 160 = .ok (.iinc 3 1, 3) := by decide +kernel
theorem dL_law_163 : decode cL_law 163 = .ok (.goto (-92), 3) := by decide +kernel
theorem dL_law_166 : decode cL_law 166 = .ok (.aload_n 1, 1) := by decide +kernel
theorem dL_law_167 : decode cL_law 167 = .ok (.iconst 3, 1) := by decide +kernel
theorem dL_law_168 : decode cL_law 168 = .ok (.iconst 0, 1) := by decide +kernel
theorem dL_law_169 : decode cL_law 169 = .ok (.iconst 1, 1) := by decide +kernel
theorem dL_law_170 : decode cL_law 170 = .ok (.invokestatic 100, 3) := by decide +kernel
theorem dL_law_173 : decode cL_law 173 = .ok (.bipush (-2), 2) := by decide +kernel
theorem dL_law_175 : decode cL_law 175 = .ok (.if_icmp .ne 98, 3) := by decide +kernel
theorem dL_law_178 : decode cL_law 178 = .ok (.aload_n 1, 1) := by decide +kernel
theorem dL_law_179 : decode cL_law 179 = .ok (.iconst 0, 1) := by decide +kernel
theorem dL_law_180 : decode cL_law 180 = .ok (.iconst 0, 1) := by decide +kernel
theorem dL_law_181 : decode cL_law 181 = .ok (.invokestatic 104, 3) := by decide +kernel
theorem dL_law_184 : decode cL_law 184 = .ok (.bipush (-3), 2) := by decide +kernel
theorem dL_law_186 : decode cL_law 186 = .ok (.if_icmp .ne 87, 3) := by decide +kernel
theorem dL_law_189 : decode cL_law 189 = .ok (.aload_n 1, 1) := by decide +kernel
theorem dL_law_190 : decode cL_law 190 = .ok (.iconst 4, 1) := by decide +kernel
theorem dL_law_191 : decode cL_law 191 = .ok (.iconst 0, 1) := by decide +kernel
theorem dL_law_192 : decode cL_law 192 = .ok (.iconst 0, 1) := by decide +kernel
theorem dL_law_193 : decode cL_law 193 = .ok (.invokestatic 129, 3) := by decide +kernel
theorem dL_law_196 : decode cL_law 196 = .ok (.bipush (-3), 2) := by decide +kernel
theorem dL_law_198 : decode cL_law 198 = .ok (.if_icmp .ne 75, 3) := by decide +kernel
theorem dL_law_201 : decode cL_law 201 = .ok (.aload_n 1, 1) := by decide +kernel
theorem dL_law_202 : decode cL_law 202 = .ok (.bipush 7, 2) := by decide +kernel
theorem dL_law_204 : decode cL_law 204 = .ok (.iconst 0, 1) := by decide +kernel
theorem dL_law_205 : decode cL_law 205 = .ok (.iconst 0, 1) := by decide +kernel
theorem dL_law_206 : decode cL_law 206 = .ok (.invokestatic 123, 3) := by decide +kernel
theorem dL_law_209 : decode cL_law 209 = .ok (.bipush (-3), 2) := by decide +kernel
theorem dL_law_211 : decode cL_law 211 = .ok (.if_icmp .ne 62, 3) := by decide +kernel
theorem dL_law_214 : decode cL_law 214 = .ok (.aload_n 1, 1) := by decide +kernel
theorem dL_law_215 : decode cL_law 215 = .ok (.bipush 12, 2) := by decide +kernel
theorem dL_law_217 : decode cL_law 217 = .ok (.iconst 0, 1) := by decide +kernel
theorem dL_law_218 : decode cL_law 218 = .ok (.iconst 0, 1) := by decide +kernel
theorem dL_law_219 : decode cL_law 219 = .ok (.iconst 0, 1) := by decide +kernel
theorem dL_law_220 : decode cL_law 220 = .ok (.iconst 0, 1) := by decide +kernel
theorem dL_law_221 : decode cL_law 221 = .ok (.invokestatic 151, 3) := by decide +kernel
theorem dL_law_224 : decode cL_law 224 = .ok (.bipush (-2), 2) := by decide +kernel
theorem dL_law_226 : decode cL_law 226 = .ok (.if_icmp .ne 47, 3) := by decide +kernel
theorem dL_law_229 : decode cL_law 229 = .ok (.aload_n 1, 1) := by decide +kernel
theorem dL_law_230 : decode cL_law 230 = .ok (.iconst 0, 1) := by decide +kernel
theorem dL_law_231 : decode cL_law 231 = .ok (.iconst 3, 1) := by decide +kernel
theorem dL_law_232 : decode cL_law 232 = .ok (.iconst 0, 1) := by decide +kernel
theorem dL_law_233 : decode cL_law 233 = .ok (.iconst 0, 1) := by decide +kernel
theorem dL_law_234 : decode cL_law 234 = .ok (.iconst 0, 1) := by decide +kernel
theorem dL_law_235 : decode cL_law 235 = .ok (.invokestatic 88, 3) := by decide +kernel
theorem dL_law_238 : decode cL_law 238 = .ok (.bipush (-3), 2) := by decide +kernel
theorem dL_law_240 : decode cL_law 240 = .ok (.if_icmp .ne 33, 3) := by decide +kernel
theorem dL_law_243 : decode cL_law 243 = .ok (.aload_n 1, 1) := by decide +kernel
theorem dL_law_244 : decode cL_law 244 = .ok (.iconst 0, 1) := by decide +kernel
theorem dL_law_245 : decode cL_law 245 = .ok (.iconst 2, 1) := by decide +kernel
theorem dL_law_246 : decode cL_law 246 = .ok (.bipush 12, 2) := by decide +kernel
theorem dL_law_248 : decode cL_law 248 = .ok (.iconst 0, 1) := by decide +kernel
theorem dL_law_249 : decode cL_law 249 = .ok (.iconst 0, 1) := by decide +kernel
theorem dL_law_250 : decode cL_law 250 = .ok (.invokestatic 88, 3) := by decide +kernel
theorem dL_law_253 : decode cL_law 253 = .ok (.bipush (-3), 2) := by decide +kernel
theorem dL_law_255 : decode cL_law 255 = .ok (.if_icmp .ne 18, 3) := by decide +kernel
theorem dL_law_258 : decode cL_law 258 = .ok (.aload_n 1, 1) := by decide +kernel
theorem dL_law_259 : decode cL_law 259 = .ok (.iconst 3, 1) := by decide +kernel
theorem dL_law_260 : decode cL_law 260 = .ok (.iconst 0, 1) := by decide +kernel
theorem dL_law_261 : decode cL_law 261 = .ok (.invokestatic 126, 3) := by decide +kernel
theorem dL_law_264 : decode cL_law 264 = .ok (.bipush (-2), 2) := by decide +kernel
theorem dL_law_266 : decode cL_law 266 = .ok (.if_icmp .ne 7, 3) := by decide +kernel
theorem dL_law_269 : decode cL_law 269 = .ok (.iconst 1, 1) := by decide +kernel
theorem dL_law_270 : decode cL_law 270 = .ok (.goto 4, 3) := by decide +kernel
theorem dL_law_273 : decode cL_law 273 = .ok (.iconst 0, 1) := by decide +kernel
theorem dL_law_274 : decode cL_law 274 = .ok (.ireturn, 1) := by decide +kernel
