theorem d_Q_law_516 : decode code 516 = .ok (.iconst 0, 1) := by decide +kernel
theorem d_Q_law_517 : decode code 517 = .ok (.ireturn, 1) := by decide +kernel
theorem d_Q_law_518 : decode code 518 = .ok (.iload 5, 2) := by decide +kernel
theorem d_Q_law_520 : decode code 520 = .ok (.ifCond .ne 15, 3) := by decide +kernel
theorem d_Q_law_523 : decode code 523 = .ok (.aload_n 3, 1) := by decide +kernel
theorem d_Q_law_524 : decode code 524 = .ok (.iconst 0, 1) := by decide +kernel
theorem d_Q_law_525 : decode code 525 = .ok (.laload, 1) := by decide +kernel
theorem d_Q_law_526 : decode code 526 = .ok (.iload 6, 2) := by decide +kernel
theorem d_Q_law_528 : decode code 528 = .ok (.i2l, 1) := by decide +kernel
theorem d_Q_law_529 : decode code 529 = .ok (.lcmp, 1) := by decide +kernel
theorem d_Q_law_530 : decode code 530 = .ok (.ifCond .eq 5, 3) := by decide +kernel
theorem d_Q_law_533 : decode code 533 = .ok (.iconst 0, 1) := by decide +kernel
theorem d_Q_law_534 : decode code 534 = .ok (.ireturn, 1) := by decide +kernel
theorem d_Q_law_535 : decode code 535 = .ok (.goto 474, 3) := by decide +kernel
theorem d_Q_law_538 : decode code 538 = .ok (.aload_n 1, 1) := by decide +kernel
theorem d_Q_law_539 : decode code 539 = .ok (.aload_n 0, 1) := by decide +kernel
theorem d_Q_law_540 : decode code 540 = .ok (.iload 4, 2) := by decide +kernel
theorem d_Q_law_542 : decode code 542 = .ok (.iconst 1, 1) := by decide +kernel
theorem d_Q_law_543 : decode code 543 = .ok (.iadd, 1) := by decide +kernel
theorem d_Q_law_544 : decode code 544 = .ok (.iaload, 1) := by decide +kernel
theorem d_Q_law_545 : decode code 545 = .ok (.aload_n 3, 1) := by decide +kernel
theorem d_Q_law_546 : decode code 546 = .ok (.invokestatic 102, 3) := by decide +kernel
theorem d_Q_law_549 : decode code 549 = .ok (.istore 5, 2) := by decide +kernel
theorem d_Q_law_551 : decode code 551 = .ok (.aload_n 2, 1) := by decide +kernel
theorem d_Q_law_552 : decode code 552 = .ok (.aload_n 0, 1) := by decide +kernel
theorem d_Q_law_553 : decode code 553 = .ok (.iload 4, 2) := by decide +kernel
theorem d_Q_law_555 : decode code 555 = .ok (.iconst 1, 1) := by decide +kernel
theorem d_Q_law_556 : decode code 556 = .ok (.iadd, 1) := by decide +kernel
theorem d_Q_law_557 : decode code 557 = .ok (.iaload, 1) := by decide +kernel
theorem d_Q_law_558 : decode code 558 = .ok (.invokevirtual 104, 3) := by decide +kernel
theorem d_Q_law_561 : decode code 561 = .ok (.istore 6, 2) := by decide +kernel
theorem d_Q_law_563 : decode code 563 = .ok (.aload_n 2, 1) := by decide +kernel
theorem d_Q_law_564 : decode code 564 = .ok (.invokevirtual 72, 3) := by decide +kernel
theorem d_Q_law_567 : decode code 567 = .ok (.iload 5, 2) := by decide +kernel
theorem d_Q_law_569 : decode code 569 = .ok (.if_icmp .eq 5, 3) := by decide +kernel
theorem d_Q_law_572 : decode code 572 = .ok (.iconst 0, 1) := by decide +kernel
theorem d_Q_law_573 : decode code 573 = .ok (.ireturn, 1) := by decide +kernel
theorem d_Q_law_574 : decode code 574 = .ok (.iload 5, 2) := by decide +kernel
theorem d_Q_law_576 : decode code 576 = .ok (.ifCond .ne 22, 3) := by decide +kernel
theorem d_Q_law_579 : decode code 579 = .ok (.aload_n 3, 1) := by decide +kernel
theorem d_Q_law_580 : decode code 580 = .ok (.iconst 0, 1) := by decide +kernel
theorem d_Q_law_581 : decode code 581 = .ok (.laload, 1) := by decide +kernel
theorem d_Q_law_582 : decode code 582 = .ok (.iload 6, 2) := by decide +kernel
theorem d_Q_law_584 : decode code 584 = .ok (.ifCond .eq 7, 3) := by decide +kernel
theorem d_Q_law_587 : decode code 587 = .ok (.lconst 1, 1) := by decide +kernel
theorem d_Q_law_588 : decode code 588 = .ok (.goto 4, 3) := by decide +kernel
theorem d_Q_law_591 : decode code 591 = .ok (.lconst 0, 1) := by decide +kernel
theorem d_Q_law_592 : decode code 592 = .ok (.lcmp, 1) := by decide +kernel
theorem d_Q_law_593 : decode code 593 = .ok (.ifCond .eq 5, 3) := by decide +kernel
theorem d_Q_law_596 : decode code 596 = .ok (.iconst 0, 1) := by decide +kernel
theorem d_Q_law_597 : decode code 597 = .ok (.ireturn, 1) := by decide +kernel
theorem d_Q_law_598 : decode code 598 = .ok (.goto 411, 3) := by decide +kernel
theorem d_Q_law_601 : decode code 601 = .ok (.aload_n 1, 1) := by decide +kernel
theorem d_Q_law_602 : decode code 602 = .ok (.aload_n 0, 1) := by decide +kernel
theorem d_Q_law_603 : decode code 603 = .ok (.iload 4, 2) := by decide +kernel
theorem d_Q_law_605 : decode code 605 = .ok (.iconst 1, 1) := by decide +kernel
theorem d_Q_law_606 : decode code 606 = .ok (.iadd, 1) := by decide +kernel
theorem d_Q_law_607 : decode code 607 = .ok (.iaload, 1) := by decide +kernel
theorem d_Q_law_608 : decode code 608 = .ok (.aload_n 3, 1) := by decide +kernel
theorem d_Q_law_609 : decode code 609 = .ok (.invokestatic 105, 3) := by decide +kernel
theorem d_Q_law_612 : decode code 612 = .ok (.istore 5, 2) := by decide +kernel
theorem d_Q_law_614 : decode code 614 = .ok (.aload_n 2, 1) := by decide +kernel
theorem d_Q_law_615 : decode code 615 = .ok (.aload_n 0, 1) := by decide +kernel
theorem d_Q_law_616 : decode code 616 = .ok (.iload 4, 2) := by decide +kernel
theorem d_Q_law_618 : decode code 618 = .ok (.iconst 1, 1) := by decide +kernel
theorem d_Q_law_619 : decode code 619 = .ok (.iadd, 1) := by decide +kernel
theorem d_Q_law_620 : decode code 620 = .ok (.iaload, 1) := by decide +kernel
theorem d_Q_law_621 : decode code 621 = .ok (.invokevirtual 107, 3) := by decide +kernel
theorem d_Q_law_624 : decode code 624 = .ok (.istore 6, 2) := by decide +kernel
theorem d_Q_law_626 : decode code 626 = .ok (.aload_n 2, 1) := by decide +kernel
theorem d_Q_law_627 : decode code 627 = .ok (.invokevirtual 72, 3) := by decide +kernel
theorem d_Q_law_630 : decode code 630 = .ok (.iload 5, 2) := by decide +kernel
theorem d_Q_law_632 : decode code 632 = .ok (.if_icmp .eq 5, 3) := by decide +kernel
theorem d_Q_law_635 : decode code 635 = .ok (.iconst 0, 1) := by decide +kernel
theorem d_Q_law_636 : decode code 636 = .ok (.ireturn, 1) := by decide +kernel
theorem d_Q_law_637 : decode code 637 = .ok (.iload 5, 2) := by decide +kernel
theorem d_Q_law_639 : decode code 639 = .ok (.ifCond .ne 15, 3) := by decide +kernel
theorem d_Q_law_642 : decode code 642 = .ok (.aload_n 3, 1) := by decide +kernel
theorem d_Q_law_643 : decode code 643 = .ok (.iconst 0, 1) := by decide +kernel
theorem d_Q_law_644 : decode code 644 = .ok (.laload, 1) := by decide +kernel
theorem d_Q_law_645 : decode code 645 = .ok (.iload 6, 2) := by decide +kernel
theorem d_Q_law_647 : decode code 647 = .ok (.i2l, 1) := by decide +kernel
theorem d_Q_law_648 : decode code 648 = .ok (.lcmp, 1) := by decide +kernel
theorem d_Q_law_649 : decode code 649 = .ok (.ifCond .eq 5, 3) := by decide +kernel
theorem d_Q_law_652 : decode code 652 = .ok (.iconst 0, 1) := by decide +kernel
theorem d_Q_law_653 : decode code 653 = .ok (.ireturn, 1) := by decide +kernel
theorem d_Q_law_654 : decode code 654 = .ok (.goto 355, 3) := by decide +kernel
theorem d_Q_law_657 : decode code 657 = .ok (.aload_n 1, 1) := by decide +kernel
theorem d_Q_law_658 : decode code 658 = .ok (.aload_n 0, 1) := by decide +kernel
theorem d_Q_law_659 : decode code 659 = .ok (.iload 4, 2) := by decide +kernel
theorem d_Q_law_661 : decode code 661 = .ok (.iconst 1, 1) := by decide +kernel
theorem d_Q_law_662 : decode code 662 = .ok (.iadd, 1) := by decide +kernel
theorem d_Q_law_663 : decode code 663 = .ok (.iaload, 1) := by decide +kernel
theorem d_Q_law_664 : decode code 664 = .ok (.aload_n 3, 1) := by decide +kernel
theorem d_Q_law_665 : decode code 665 = .ok (.invokestatic 108, 3) := by decide +kernel
theorem d_Q_law_668 : decode code 668 = .ok (.istore 5, 2) := by decide +kernel
theorem d_Q_law_670 : decode code 670 = .ok (.aload_n 2, 1) := by decide +kernel
theorem d_Q_law_671 : decode code 671 = .ok (.aload_n 0, 1) := by decide +kernel
theorem d_Q_law_672 : decode code 672 = .ok (.iload 4, 2) := by decide +kernel
theorem d_Q_law_674 : decode code 674 = .ok (.iconst 1, 1) := by decide +kernel
theorem d_Q_law_675 : decode code 675 = .ok (.iadd, 1) := by decide +kernel
theorem d_Q_law_676 : decode code 676 = .ok (.iaload, 1) := by decide +kernel
theorem d_Q_law_677 : decode code 677 = .ok (.invokevirtual 110, 3) := by decide +kernel
theorem d_Q_law_680 : decode code 680 = .ok (.istore 6, 2) := by decide +kernel
theorem d_Q_law_682 : decode code 682 = .ok (.aload_n 2, 1) := by decide +kernel
theorem d_Q_law_683 : decode code 683 = .ok (.invokevirtual 72, 3) := by decide +kernel
theorem d_Q_law_686 : decode code 686 = .ok (.iload 5, 2) := by decide +kernel
theorem d_Q_law_688 : decode code 688 = .ok (.if_icmp .eq 5, 3) := by decide +kernel
theorem d_Q_law_691 : decode code 691 = .ok (.iconst 0, 1) := by decide +kernel
theorem d_Q_law_692 : decode code 692 = .ok (.ireturn, 1) := by decide +kernel
theorem d_Q_law_693 : decode code 693 = .ok (.iload 5, 2) := by decide +kernel
theorem d_Q_law_695 : decode code 695 = .ok (.ifCond .ne 15, 3) := by decide +kernel
theorem d_Q_law_698 : decode code 698 = .ok (.aload_n 3, 1) := by decide +kernel
theorem d_Q_law_699 : decode code 699 = .ok (.iconst 0, 1) := by decide +kernel
theorem d_Q_law_700 : decode code 700 = .ok (.laload, 1) := by decide +kernel
theorem d_Q_law_701 : decode code 701 = .ok (.iload 6, 2) := by decide +kernel
theorem d_Q_law_703 : decode code 703 = .ok (.i2l, 1) := by decide +kernel
theorem d_Q_law_704 : decode code 704 = .ok (.lcmp, 1) := by decide +kernel
theorem d_Q_law_705 : decode code 705 = .ok (.ifCond .eq 5, 3) := by decide +kernel
theorem d_Q_law_708 : decode code 708 = .ok (.iconst 0, 1) := by decide +kernel
theorem d_Q_law_709 : decode code 709 = .ok (.ireturn, 1) := by decide +kernel
theorem d_Q_law_710 : decode code 710 = .ok (.goto 299, 3) := by decide +kernel
theorem d_Q_law_713 : decode code 713 = .ok (.aload_n 1, 1) := by decide +kernel
theorem d_Q_law_714 : decode code 714 = .ok (.aload_n 0, 1) := by decide +kernel
theorem d_Q_law_715 : decode code 715 = .ok (.iload 4, 2) := by decide +kernel
theorem d_Q_law_717 : decode code 717 = .ok (.iconst 1, 1) := by decide +kernel
theorem d_Q_law_718 : decode code 718 = .ok (.iadd, 1) := by decide +kernel
theorem d_Q_law_719 : decode code 719 = .ok (.iaload, 1) := by decide +kernel
theorem d_Q_law_720 : decode code 720 = .ok (.aload_n 3, 1) := by decide +kernel
theorem d_Q_law_721 : decode code 721 = .ok (.invokestatic 111, 3) := by decide +kernel
theorem d_Q_law_724 : decode code 724 = .ok (.istore 5, 2) := by decide +kernel
theorem d_Q_law_726 : decode code 726 = .ok (.aload_n 2, 1) := by decide +kernel
theorem d_Q_law_727 : decode code 727 = .ok (.aload_n 0, 1) := by decide +kernel
theorem d_Q_law_728 : decode code 728 = .ok (.iload 4, 2) := by decide +kernel
theorem d_Q_law_730 : decode code 730 = .ok (.iconst 1, 1) := by decide +kernel
theorem d_Q_law_731 : decode code 731 = .ok (.iadd, 1) := by decide +kernel
theorem d_Q_law_732 : decode code 732 = .ok (.iaload, 1) := by decide +kernel
theorem d_Q_law_733 : decode code 733 = .ok (.invokevirtual 113, 3) := by decide +kernel
theorem d_Q_law_736 : decode code 736 = .ok (.istore 6, 2) := by decide +kernel
theorem d_Q_law_738 : decode code 738 = .ok (.aload_n 2, 1) := by decide +kernel
