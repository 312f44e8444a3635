theorem dL_acts_459 : decode cL_acts 459 = .ok (.iload 5, 2) := by decide +kernel
theorem dL_acts_461 : decode cL_acts 461 = .ok (.iload 4, 2) := by decide +kernel
theorem dL_acts_463 : decode cL_acts 463 = .ok (.if_icmp .eq 21, 3) := by decide +kernel
theorem dL_acts_466 : decode cL_acts 466 = .ok (.iload 9, 2) := by decide +kernel
theorem dL_acts_468 : decode cL_acts 468 = .ok (.iconst 5, 1) := by decide +kernel
theorem dL_acts_469 : decode cL_acts 469 = .ok (.if_icmp .eq 15, 3) := by decide +kernel
theorem dL_acts_472 : decode cL_acts 472 = .ok (.iload 10, 2) := by decide +kernel
theorem dL_acts_474 : decode cL_acts 474 = .ok (.bipush 7, 2) := by decide +kernel
theorem dL_acts_476 : decode cL_acts 476 = .ok (.if_icmp .eq 8, 3) := by decide +kernel
theorem dL_acts_479 : decode cL_acts 479 = .ok (.iload 11, 2) := by decide +kernel
theorem dL_acts_481 : decode cL_acts 481 = .ok (.ifCond .ne 7, 3) := by decide +kernel
theorem dL_acts_484 : decode cL_acts 484 = .ok (.iconst 1, 1) := by decide +kernel
theorem dL_acts_485 : decode cL_acts 485 = .ok (.goto 4, 3) := by decide +kernel
theorem dL_acts_488 : decode cL_acts 488 = .ok (.iconst 0, 1) := by decide +kernel
theorem dL_acts_489 : decode cL_acts 489 = .ok (.istore 12, 2) := by decide +kernel
theorem dL_acts_491 : decode cL_acts 491 = .ok (.iload 12, 2) := by decide +kernel
theorem dL_acts_493 : decode cL_acts 493 = .ok (.ifCond .ne 45, 3) := by decide +kernel
theorem dL_acts_496 : decode cL_acts 496 = .ok (.aload_n 0, 1) := by decide +kernel
theorem dL_acts_497 : decode cL_acts 497 = .ok (.iload 5, 2) := by decide +kernel
theorem dL_acts_499 : decode cL_acts 499 = .ok (.iconst 0, 1) := by decide +kernel
theorem dL_acts_500 : decode cL_acts 500 = .ok (.invokevirtual 23, 3) := by decide +kernel
theorem dL_acts_503 : decode cL_acts 503 = .ok (.ldc 32, 2) := by decide +kernel
theorem dL_acts_505 : decode cL_acts 505 = .ok (.if_icmp .eq 29, 3) := by decide +kernel
theorem dL_acts_508 : decode cL_acts 508 = .ok (.aload_n 0, 1) := by decide +kernel
theorem dL_acts_509 : decode cL_acts 509 = .ok (.iload 5, 2) := by decide +kernel
theorem dL_acts_511 : decode cL_acts 511 = .ok (.iconst 5, 1) := by decide +kernel
theorem dL_acts_512 : decode cL_acts 512 = .ok (.invokevirtual 23, 3) := by decide +kernel
theorem dL_acts_515 : decode cL_acts 515 = .ok (.iload 9, 2) := by decide +kernel
theorem dL_acts_517 : decode cL_acts 517 = .ok (.ishr, 1) := by decide +kernel
theorem dL_acts_518 : decode cL_acts 518 = .ok (.iconst 1, 1) := by decide +kernel
theorem dL_acts_519 : decode cL_acts 519 = .ok (.iand, 1) := by decide +kernel
theorem dL_acts_520 : decode cL_acts 520 = .ok (.iconst 1, 1) := by decide +kernel
theorem dL_acts_521 : decode cL_acts 521 = .ok (.if_icmp .eq 13, 3) := by decide +kernel
theorem dL_acts_524 : decode cL_acts 524 = .ok (.iload 9, 2) := by decide +kernel
theorem dL_acts_526 : decode cL_acts 526 = .ok (.aload_n 0, 1) := by decide +kernel
theorem dL_acts_527 : decode cL_acts 527 = .ok (.iconst 1, 1) := by decide +kernel
theorem dL_acts_528 : decode cL_acts 528 = .ok (.invokevirtual 13, 3) := by decide +kernel
theorem dL_acts_531 : decode cL_acts 531 = .ok (.if_icmp .ge 7, 3) := by decide +kernel
theorem dL_acts_534 : decode cL_acts 534 = .ok (.iconst 1, 1) := by decide +kernel
theorem dL_acts_535 : decode cL_acts 535 = .ok (.goto 4, 3) := by decide +kernel
theorem dL_acts_538 : decode cL_acts 538 = .ok (.iconst 0, 1) := by decide +kernel
theorem dL_acts_539 : decode cL_acts 539 = .ok (.istore 13, 2) := by decide +kernel
theorem dL_acts_541 : decode cL_acts 541 = .ok (.aload_n 0, 1) := by decide +kernel
theorem dL_acts_542 : decode cL_acts 542 = .ok (.iload 5, 2) := by decide +kernel
theorem dL_acts_544 : decode cL_acts 544 = .ok (.iload 9, 2) := by decide +kernel
theorem dL_acts_546 : decode cL_acts 546 = .ok (.iload 10, 2) := by decide +kernel
theorem dL_acts_548 : decode cL_acts 548 = .ok (.iload 11, 2) := by decide +kernel
theorem dL_acts_550 : decode cL_acts 550 = .ok (.invokevirtual 68, 3) := by decide +kernel
theorem dL_acts_553 : decode cL_acts 553 = .ok (.istore 14, 2) := by decide +kernel
theorem dL_acts_555 : decode cL_acts 555 = .ok (.iload 12, 2) := by decide +kernel
theorem dL_acts_557 : decode cL_acts 557 = .ok (.ifCond .eq 18, 3) := by decide +kernel
theorem dL_acts_560 : decode cL_acts 560 = .ok (.iload 14, 2) := by decide +kernel
theorem dL_acts_562 : decode cL_acts 562 = .ok (.ldc 54, 2) := by decide +kernel
theorem dL_acts_564 : decode cL_acts 564 = .ok (.if_icmp .ne 7, 3) := by decide +kernel
theorem dL_acts_567 : decode cL_acts 567 = .ok (.iconst 1, 1) := by decide +kernel
theorem dL_acts_568 : decode cL_acts 568 = .ok (.goto 72, 3) := by decide +kernel
theorem dL_acts_571 : decode cL_acts 571 = .ok (.iconst 0, 1) := by decide +kernel
theorem dL_acts_572 : decode cL_acts 572 = .ok (.goto 68, 3) := by decide +kernel
theorem dL_acts_575 : decode cL_acts 575 = .ok (.iload 13, 2) := by decide +kernel
theorem dL_acts_577 : decode cL_acts 577 = .ok (.ifCond .eq 18, 3) := by decide +kernel
theorem dL_acts_580 : decode cL_acts 580 = .ok (.iload 14, 2) := by decide +kernel
theorem dL_acts_582 : decode cL_acts 582 = .ok (.ldc 53, 2) := by decide +kernel
theorem dL_acts_584 : decode cL_acts 584 = .ok (.if_icmp .ne 7, 3) := by decide +kernel
theorem dL_acts_587 : decode cL_acts 587 = .ok (.iconst 1, 1) := by decide +kernel
theorem dL_acts_588 : decode cL_acts 588 = .ok (.goto 52, 3) := by decide +kernel
theorem dL_acts_591 : decode cL_acts 591 = .ok (.iconst 0, 1) := by decide +kernel
theorem dL_acts_592 : decode cL_acts 592 = .ok (.goto 48, 3) := by decide +kernel
theorem dL_acts_595 : decode cL_acts 595 = .ok (.iload 14, 2) := by decide +kernel
theorem dL_acts_597 : decode cL_acts 597 = .ok (.ifCond .le 42, 3) := by decide +kernel
theorem dL_acts_600 : decode cL_acts 600 = .ok (.iload 14, 2) := by decide +kernel
theorem dL_acts_602 : decode cL_acts 602 = .ok (.bipush 6, 2) := by decide +kernel
theorem dL_acts_604 : decode cL_acts 604 = .ok (.if_icmp .ge 35, 3) := by decide +kernel
theorem dL_acts_607 : decode cL_acts 607 = .ok (.aload_n 0, 1) := by decide +kernel
theorem dL_acts_608 : decode cL_acts 608 = .ok (.iload 5, 2) := by decide +kernel
theorem dL_acts_610 : decode cL_acts 610 = .ok (.iload 9, 2) := by decide +kernel
theorem dL_acts_612 : decode cL_acts 612 = .ok (.iconst 0, 1) := by decide +kernel
theorem dL_acts_613 : decode cL_acts 613 = .ok (.invokevirtual 26, 3) := by decide +kernel
theorem dL_acts_616 : decode cL_acts 616 = .ok (.iload 10, 2) := by decide +kernel
theorem dL_acts_618 : decode cL_acts 618 = .ok (.if_icmp .ne 21, 3) := by decide +kernel
theorem dL_acts_621 : decode cL_acts 621 = .ok (.aload_n 0, 1) := by decide +kernel
theorem dL_acts_622 : decode cL_acts 622 = .ok (.iload 5, 2) := by decide +kernel
theorem dL_acts_624 : decode cL_acts 624 = .ok (.iload 9, 2) := by decide +kernel
theorem dL_acts_626 : decode cL_acts 626 = .ok (.iconst 1, 1) := by decide +kernel
theorem dL_acts_627 : decode cL_acts 627 = .ok (.invokevirtual 26, 3) := by decide +kernel
theorem dL_acts_630 : decode cL_acts 630 = .ok (.iload 11, 2) := by decide +kernel
theorem dL_acts_632 : decode cL_acts 632 = .ok (.if_icmp .ne 7, 3) := by decide +kernel
theorem dL_acts_635 : decode cL_acts 635 = .ok (.iconst 1, 1) := by decide +kernel
theorem dL_acts_636 : decode cL_acts 636 = .ok (.goto 4, 3) := by decide +kernel
theorem dL_acts_639 : decode cL_acts 639 = .ok (.iconst 0, 1) := by decide +kernel
theorem dL_acts_640 : decode cL_acts 640 = .ok (.ireturn, 1) := by decide +kernel
theorem dL_acts_641 : decode cL_acts 641 = .ok (.iload_n 3, 1) := by decide +kernel
theorem dL_acts_642 : decode cL_acts 642 = .ok (.bipush 12, 2) := by decide +kernel
theorem dL_acts_644 : decode cL_acts 644 = .ok (.if_icmp .ne 146, 3) := by decide +kernel
theorem dL_acts_647 : decode cL_acts 647 = .ok (.iload_n 2, 1) := by decide +kernel
theorem dL_acts_648 : decode cL_acts 648 = .ok (.bipush 21, 2) := by decide +kernel
theorem dL_acts_650 : decode cL_acts 650 = .ok (.invokestatic 36, 3) := by decide +kernel
theorem dL_acts_653 : decode cL_acts 653 = .ok (.bipush 10, 2) := by decide +kernel
theorem dL_acts_655 : decode cL_acts 655 = .ok (.isub, 1) := by decide +kernel
theorem dL_acts_656 : decode cL_acts 656 = .ok (.istore 9, 2) := by decide +kernel
theorem dL_acts_658 : decode cL_acts 658 = .ok (.iload 5, 2) := by decide +kernel
theorem dL_acts_660 : decode cL_acts 660 = .ok (.iload 4, 2) := by decide +kernel
theorem dL_acts_662 : decode cL_acts 662 = .ok (.if_icmp .eq 17, 3) := by decide +kernel
theorem dL_acts_665 : decode cL_acts 665 = .ok (.iload 9, 2) := by decide +kernel
theorem dL_acts_667 : decode cL_acts 667 = .ok (.bipush (-9), 2) := by decide +kernel
theorem dL_acts_669 : decode cL_acts 669 = .ok (.if_icmp .lt 10, 3) := by decide +kernel
theorem dL_acts_672 : decode cL_acts 672 = .ok (.iload 9, 2) := by decide +kernel
theorem dL_acts_674 : decode cL_acts 674 = .ok (.bipush 9, 2) := by decide +kernel
theorem dL_acts_676 : decode cL_acts 676 = .ok (.if_icmp .le 7, 3) := by decide +kernel
theorem dL_acts_679 : decode cL_acts 679 = .ok (.iconst 1, 1) := by decide +kernel
theorem dL_acts_680 : decode cL_acts 680 = .ok (.goto 4, 3) := by decide +kernel
theorem dL_acts_683 : decode cL_acts 683 = .ok (.iconst 0, 1) := by decide +kernel
theorem dL_acts_684 : decode cL_acts 684 = .ok (.istore 10, 2) := by decide +kernel
theorem dL_acts_686 : decode cL_acts 686 = .ok (.iload 10, 2) := by decide +kernel
theorem dL_acts_688 : decode cL_acts 688 = .ok (.ifCond .ne 19, 3) := by decide +kernel
theorem dL_acts_691 : decode cL_acts 691 = .ok (.aload_n 0, 1) := by decide +kernel
theorem dL_acts_692 : decode cL_acts 692 = .ok (.iload 5, 2) := by decide +kernel
theorem dL_acts_694 : decode cL_acts 694 = .ok (.iconst 0, 1) := by decide +kernel
theorem dL_acts_695 : decode cL_acts 695 = .ok (.invokevirtual 23, 3) := by decide +kernel
theorem dL_acts_698 : decode cL_acts 698 = .ok (.ldc 32, 2) := by decide +kernel
theorem dL_acts_700 : decode cL_acts 700 = .ok (.if_icmp .ne 7, 3) := by decide +kernel
theorem dL_acts_703 : decode cL_acts 703 = .ok (.iconst 1, 1) := by decide +kernel
theorem dL_acts_704 : decode cL_acts 704 = .ok (.goto 4, 3) := by decide +kernel
theorem dL_acts_707 : decode cL_acts 707 = .ok (.iconst 0, 1) := by decide +kernel
theorem dL_acts_708 : decode cL_acts 708 = .ok (.istore 11, 2) := by decide +kernel
theorem dL_acts_710 : decode cL_acts 710 = .ok (.aload_n 0, 1) := by decide +kernel
theorem dL_acts_711 : decode cL_acts 711 = .ok (.iload 5, 2) := by decide +kernel
theorem dL_acts_713 : decode cL_acts 713 = .ok (.iload 9, 2) := by decide +kernel
theorem dL_acts_715 : decode cL_acts 715 = .ok (.invokevirtual 72, 3) := by decide +kernel
theorem dL_acts_718 : decode cL_acts 718 = .ok (.istore 12, 2) := by decide +kernel
theorem dL_acts_720 : decode cL_acts 720 = .ok (.iload 10, 2) := by decide +kernel
theorem dL_acts_722 : decode cL_acts 722 = .ok (.ifCond .eq 18, 3) := by decide +kernel
theorem dL_acts_725 : decode cL_acts 725 = .ok (.iload 12, 2) := by decide +kernel
theorem dL_acts_727 : decode cL_acts 727 = .ok (.ldc 54, 2) := by decide +kernel
theorem dL_acts_729 : decode cL_acts 729 = .ok (.if_icmp .ne 7, 3) := by decide +kernel
theorem dL_acts_732 : decode cL_acts 732 = .ok (.iconst 1, 1) := by decide +kernel
theorem dL_acts_733 : decode cL_acts 733 = .ok (.goto 56, 3) := by decide +kernel
theorem dL_acts_736 : decode cL_acts 736 = .ok (.iconst 0, 1) := by decide +kernel
theorem dL_acts_737 : decode cL_acts 737 = .ok (.goto 52, 3) := by decide +kernel
theorem dL_acts_740 : decode cL_acts 740 = .ok (.iload 11, 2) := by decide +kernel
theorem dL_acts_742 : decode cL_acts 742 = .ok (.ifCond .eq 18, 3) := by decide +kernel
theorem dL_acts_745 : decode cL_acts 745 = .ok (.iload 12, 2) := by decide +kernel
theorem dL_acts_747 : decode cL_acts 747 = .ok (.ldc 53, 2) := by decide +kernel
theorem dL_acts_749 : decode cL_acts 749 = .ok (.if_icmp .ne 7, 3) := by decide +kernel
theorem dL_acts_752 : decode cL_acts 752 = .ok (.iconst 1, 1) := by decide +kernel
theorem dL_acts_753 : decode cL_acts 753 = .ok (.goto 36, 3) := by decide +kernel
theorem dL_acts_756 : decode cL_acts 756 = .ok (.iconst 0, 1) := by decide +kernel
theorem dL_acts_757 : decode cL_acts 757 = .ok (.goto 32, 3) := by decide +kernel
theorem dL_acts_760 : decode cL_acts 760 = .ok (.iload 12, 2) := by decide +kernel
theorem dL_acts_762 : decode cL_acts 762 = .ok (.aload_n 0, 1) := by decide +kernel
theorem dL_acts_763 : decode cL_acts 763 = .ok (.iload 5, 2) := by decide +kernel
theorem dL_acts_765 : decode cL_acts 765 = .ok (.iconst 2, 1) := by decide +kernel
theorem dL_acts_766 : decode cL_acts 766 = .ok (.invokevirtual 23, 3) := by decide +kernel
theorem dL_acts_769 : decode cL_acts 769 = .ok (.if_icmp .ne 19, 3) := by decide +kernel
theorem dL_acts_772 : decode cL_acts 772 = .ok (.iload 12, 2) := by decide +kernel
theorem dL_acts_774 : decode cL_acts 774 = .ok (.ifCond .lt 14, 3) := by decide +kernel
theorem dL_acts_777 : decode cL_acts 777 = .ok (.iload 12, 2) := by decide +kernel
theorem dL_acts_779 : decode cL_acts 779 = .ok (.bipush 10, 2) := by decide +kernel
theorem dL_acts_781 : decode cL_acts 781 = .ok (.if_icmp .ge 7, 3) := by decide +kernel
theorem dL_acts_784 : decode cL_acts 784 = .ok (.iconst 1, 1) := by decide +kernel
theorem dL_acts_785 : decode cL_acts 785 = .ok (.goto 4, 3) := by decide +kernel
theorem dL_acts_788 : decode cL_acts 788 = .ok (.iconst 0, 1) := by decide +kernel
theorem dL_acts_789 : decode cL_acts 789 = .ok (.ireturn, 1) := by decide +kernel
theorem dL_acts_790 : decode cL_acts 790 = .ok (.iload_n 3, 1) := by decide +kernel
theorem dL_acts_791 : decode cL_acts 791 = .ok (.bipush 17, 2) := by decide +kernel
theorem dL_acts_793 : decode cL_acts 793 = .ok (.if_icmp .ge 94, 3) := by decide +kernel
theorem dL_acts_796 : decode cL_acts 796 = .ok (.aload_n 0, 1) := by decide +kernel
theorem dL_acts_797 : decode cL_acts 797 = .ok (.iconst 1, 1) := by decide +kernel
theorem dL_acts_798 : decode cL_acts 798 = .ok (.invokevirtual 13, 3) := by decide +kernel
theorem dL_acts_801 : decode cL_acts 801 = .ok (.istore 9, 2) := by decide +kernel
theorem dL_acts_803 : decode cL_acts 803 = .ok (.aload_n 0, 1) := by decide +kernel
theorem dL_acts_804 : decode cL_acts 804 = .ok (.bipush 6, 2) := by decide +kernel
theorem dL_acts_806 : decode cL_acts 806 = .ok (.invokevirtual 13, 3) := by decide +kernel
theorem dL_acts_809 : decode cL_acts 809 = .ok (.istore 10, 2) := by decide +kernel
theorem dL_acts_811 : decode cL_acts 811 = .ok (.iload_n 3, 1) := by decide +kernel
theorem dL_acts_812 : decode cL_acts 812 = .ok (.bipush 16, 2) := by decide +kernel
theorem dL_acts_814 : decode cL_acts 814 = .ok (.if_icmp .ne 10, 3) := by decide +kernel
theorem dL_acts_817 : decode cL_acts 817 = .ok (.aload_n 0, 1) := by decide +kernel
theorem dL_acts_818 : decode cL_acts 818 = .ok (.invokevirtual 75, 3) := by decide +kernel
theorem dL_acts_821 : decode cL_acts 821 = .ok (.goto 7, 3) := by decide +kernel
theorem dL_acts_824 : decode cL_acts 824 = .ok (.aload_n 0, 1) := by decide +kernel
theorem dL_acts_825 : decode cL_acts 825 = .ok (.invokevirtual 78, 3) := by decide +kernel
theorem dL_acts_828 : decode cL_acts 828 = .ok (.istore 11, 2) := by decide +kernel
theorem dL_acts_830 : decode cL_acts 830 = .ok (.iload 4, 2) := by decide +kernel
theorem dL_acts_832 : decode cL_acts 832 = .ok (.ifCond .ne 18, 3) := by decide +kernel
theorem dL_acts_835 : decode cL_acts 835 = .ok (.iload 11, 2) := by decide +kernel
theorem dL_acts_837 : decode cL_acts 837 = .ok (.ldc 53, 2) := by decide +kernel
theorem dL_acts_839 : decode cL_acts 839 = .ok (.if_icmp .ne 7, 3) := by decide +kernel
theorem dL_acts_842 : decode cL_acts 842 = .ok (.iconst 1, 1) := by decide +kernel
theorem dL_acts_843 : decode cL_acts 843 = .ok (.goto 43, 3) := by decide +kernel
theorem dL_acts_846 : decode cL_acts 846 = .ok (.iconst 0, 1) := by decide +kernel
theorem dL_acts_847 : decode cL_acts 847 = .ok (.goto 39, 3) := by decide +kernel
theorem dL_acts_850 : decode cL_acts 850 = .ok (.iload 11, 2) := by decide +kernel
theorem dL_acts_852 : decode cL_acts 852 = .ok (.ifCond .lt 33, 3) := by decide +kernel
theorem dL_acts_855 : decode cL_acts 855 = .ok (.aload_n 0, 1) := by decide +kernel
theorem dL_acts_856 : decode cL_acts 856 = .ok (.bipush 6, 2) := by decide +kernel
theorem dL_acts_858 : decode cL_acts 858 = .ok (.invokevirtual 13, 3) := by decide +kernel
theorem dL_acts_861 : decode cL_acts 861 = .ok (.iload 10, 2) := by decide +kernel
theorem dL_acts_863 : decode cL_acts 863 = .ok (.iload_n 3, 1) := by decide +kernel
theorem dL_acts_864 : decode cL_acts 864 = .ok (.bipush 16, 2) := by decide +kernel
theorem dL_acts_866 : decode cL_acts 866 = .ok (.if_icmp .ne 10, 3) := by decide +kernel
theorem dL_acts_869 : decode cL_acts 869 = .ok (.iconst 5, 1) := by decide +kernel
theorem dL_acts_870 : decode cL_acts 870 = .ok (.iload 9, 2) := by decide +kernel
theorem dL_acts_872 : decode cL_acts 872 = .ok (.isub, 1) := by decide +kernel
theorem dL_acts_873 : decode cL_acts 873 = .ok (.goto 4, 3) := by decide +kernel
theorem dL_acts_876 : decode cL_acts 876 = .ok (.iconst 1, 1) := by decide +kernel
theorem dL_acts_877 : decode cL_acts 877 = .ok (.iadd, 1) := by decide +kernel
theorem dL_acts_878 : decode cL_acts 878 = .ok (.if_icmp .ne 7, 3) := by decide +kernel
theorem dL_acts_881 : decode cL_acts 881 = .ok (.iconst 1, 1) := by decide +kernel
theorem dL_acts_882 : decode cL_acts 882 = .ok (.goto 4, 3) := by decide +kernel
theorem dL_acts_885 : decode cL_acts 885 = .ok (.iconst 0, 1) := by decide +kernel
theorem dL_acts_886 : decode cL_acts 886 = .ok (.ireturn, 1) := by decide +kernel
theorem dL_acts_887 : decode cL_acts 887 = .ok (.iload_n 3, 1) := by decide +kernel
theorem dL_acts_888 : decode cL_acts 888 = .ok (.bipush 17, 2) := by decide +kernel
theorem dL_acts_890 : decode cL_acts 890 = .ok (.if_icmp .ne 133, 3) := by decide +kernel
theorem dL_acts_893 : decode cL_acts 893 = .ok (.iload_n 2, 1) := by decide +kernel
theorem dL_acts_894 : decode cL_acts 894 = .ok (.iconst 4, 1) := by decide +kernel
theorem dL_acts_895 : decode cL_acts 895 = .ok (.invokestatic 36, 3) := by decide +kernel
theorem dL_acts_898 : decode cL_acts 898 = .ok (.istore 9, 2) := by decide +kernel
theorem dL_acts_900 : decode cL_acts 900 = .ok (.iload 4, 2) := by decide +kernel
theorem dL_acts_902 : decode cL_acts 902 = .ok (.ifCond .ne 7, 3) := by decide +kernel
theorem dL_acts_905 : decode cL_acts 905 = .ok (.iconst 0, 1) := by decide +kernel
theorem dL_acts_906 : decode cL_acts 906 = .ok (.goto 11, 3) := by decide +kernel
theorem dL_acts_909 : decode cL_acts 909 = .ok (.iload_n 2, 1) := by decide +kernel
theorem dL_acts_910 : decode cL_acts 910 = .ok (.iconst 2, 1) := by decide +kernel
theorem dL_acts_911 : decode cL_acts 911 = .ok (.ishr, 1) := by decide +kernel
theorem dL_acts_912 : decode cL_acts 912 = .ok (.iload 4, 2) := by decide +kernel
theorem dL_acts_914 : decode cL_acts 914 = .ok (.invokestatic 36, 3) := by decide +kernel
theorem dL_acts_917 : decode cL_acts 917 = .ok (.istore 10, 2) := by decide +kernel
theorem dL_acts_919 : decode cL_acts 919 = .ok (.aload_n 0, 1) := by decide +kernel
theorem dL_acts_920 : decode cL_acts 920 = .ok (.iload 10, 2) := by decide +kernel
theorem dL_acts_922 : decode cL_acts 922 = .ok (.iconst 1, 1) := by decide +kernel
theorem dL_acts_923 : decode cL_acts 923 = .ok (.iload_n 2, 1) := by decide +kernel
theorem dL_acts_924 : decode cL_acts 924 = .ok (.iconst 4, 1) := by decide +kernel
theorem dL_acts_925 : decode cL_acts 925 = .ok (.ishr, 1) := by decide +kernel
theorem dL_acts_926 : decode cL_acts 926 = .ok (.bipush 50, 2) := by decide +kernel
theorem dL_acts_928 : decode cL_acts 928 = .ok (.invokestatic 36, 3) := by decide +kernel
theorem dL_acts_931 : decode cL_acts 931 = .ok (.iadd, 1) := by decide +kernel
theorem dL_acts_932 : decode cL_acts 932 = .ok (.iconst 0, 1) := by decide +kernel
theorem dL_acts_933 : decode cL_acts 933 = .ok (.invokevirtual 81, 3) := by decide +kernel
theorem dL_acts_936 : decode cL_acts 936 = .ok (.istore 11, 2) := by decide +kernel
theorem dL_acts_938 : decode cL_acts 938 = .ok (.iload 4, 2) := by decide +kernel
theorem dL_acts_940 : decode cL_acts 940 = .ok (.ifCond .le 37, 3) := by decide +kernel
theorem dL_acts_943 : decode cL_acts 943 = .ok (.aload_n 0, 1) := by decide +kernel
theorem dL_acts_944 : decode cL_acts 944 = .ok (.iload 10, 2) := by decide +kernel
theorem dL_acts_946 : decode cL_acts 946 = .ok (.iload 9, 2) := by decide +kernel
theorem dL_acts_948 : decode cL_acts 948 = .ok (.iconst 2, 1) := by decide +kernel
theorem dL_acts_949 : decode cL_acts 949 = .ok (.invokevirtual 84, 3) := by decide +kernel
theorem dL_acts_952 : decode cL_acts 952 = .ok (.ifCond .lt 69, 3) := by decide +kernel
theorem dL_acts_955 : decode cL_acts 955 = .ok (.aload_n 0, 1) := by decide +kernel
theorem dL_acts_956 : decode cL_acts 956 = .ok (.iload 10, 2) := by decide +kernel
theorem dL_acts_958 : decode cL_acts 958 = .ok (.iload 9, 2) := by decide +kernel
theorem dL_acts_960 : decode cL_acts 960 = .ok (.iconst 3, 1) := by decide +kernel
theorem dL_acts_961 : decode cL_acts 961 = .ok (.invokevirtual 84, 3) := by decide +kernel
theorem dL_acts_964 : decode cL_acts 964 = .ok (.aload_n 0, 1) := by decide +kernel
theorem dL_acts_965 : decode cL_acts 965 = .ok (.iload 10, 2) := by decide +kernel
theorem dL_acts_967 : decode cL_acts 967 = .ok (.iconst 3, 1) := by decide +kernel
theorem dL_acts_968 : decode cL_acts 968 = .ok (.invokevirtual 23, 3) := by decide +kernel
theorem dL_acts_971 : decode cL_acts 971 = .ok (.if_icmp .lt 50, 3) := by decide +kernel
theorem dL_acts_974 : decode cL_acts 974 = .ok (.goto 10, 3) := by decide +kernel
theorem dL_acts_977 : decode cL_acts 977 = .ok (.iload 11, 2) := by decide +kernel
theorem dL_acts_979 : decode cL_acts 979 = .ok (.ldc 54, 2) := by decide +kernel
theorem dL_acts_981 : decode cL_acts 981 = .ok (.if_icmp .ne 40, 3) := by decide +kernel
theorem dL_acts_984 : decode cL_acts 984 = .ok (.iload 11, 2) := by decide +kernel
theorem dL_acts_986 : decode cL_acts 986 = .ok (.ifCond .ge 13, 3) := by decide +kernel
theorem dL_acts_989 : decode cL_acts 989 = .ok (.iload 11, 2) := by decide +kernel
theorem dL_acts_991 : decode cL_acts 991 = .ok (.ldc 32, 2) := by decide +kernel
theorem dL_acts_993 : decode cL_acts 993 = .ok (.if_icmp .lt 28, 3) := by decide +kernel
theorem dL_acts_996 : decode cL_acts 996 = .ok (.goto 10, 3) := by decide +kernel
theorem dL_acts_999 : decode cL_acts 999 = .ok (.iload 11, 2) := by decide +kernel
theorem dL_acts_1001 : decode cL_acts 1001 = .ok (.bipush 7, 2) := by decide +kernel
theorem dL_acts_1003 : decode cL_acts 1003 = .ok (.if_icmp .ge 18, 3) := by decide +kernel
theorem dL_acts_1006 : decode cL_acts 1006 = .ok (.aload_n 0, 1) := by decide +kernel
theorem dL_acts_1007 : decode cL_acts 1007 = .ok (.iload 8, 2) := by decide +kernel
theorem dL_acts_1009 : decode cL_acts 1009 = .ok (.iload 8, 2) := by decide +kernel
theorem dL_acts_1011 : decode cL_acts 1011 = .ok (.invokevirtual 87, 3) := by decide +kernel
theorem dL_acts_1014 : decode cL_acts 1014 = .ok (.ifCond .ne 7, 3) := by decide +kernel
theorem dL_acts_1017 : decode cL_acts 1017 = .ok (.iconst 1, 1) := by decide +kernel
theorem dL_acts_1018 : decode cL_acts 1018 = .ok (.goto 4, 3) := by decide +kernel
theorem dL_acts_1021 : decode cL_acts 1021 = .ok (.iconst 0, 1) := by decide +kernel
theorem dL_acts_1022 : decode cL_acts 1022 = .ok (.ireturn, 1) := by decide +kernel
theorem dL_acts_1023 : decode cL_acts 1023 = .ok (.aload_n 0, 1) := by decide +kernel
theorem dL_acts_1024 : decode cL_acts 1024 = .ok (.iload_n 2, 1) := by decide +kernel
theorem dL_acts_1025 : decode cL_acts 1025 = .ok (.invokestatic 90, 3) := by decide +kernel
theorem dL_acts_1028 : decode cL_acts 1028 = .ok (.ifCond .eq 14, 3) := by decide +kernel
theorem dL_acts_1031 : decode cL_acts 1031 = .ok (.aload_n 0, 1) := by decide +kernel
theorem dL_acts_1032 : decode cL_acts 1032 = .ok (.invokestatic 93, 3) := by decide +kernel
theorem dL_acts_1035 : decode cL_acts 1035 = .ok (.ifCond .eq 7, 3) := by decide +kernel
theorem dL_acts_1038 : decode cL_acts 1038 = .ok (.iconst 1, 1) := by decide +kernel
theorem dL_acts_1039 : decode cL_acts 1039 = .ok (.goto 4, 3) := by decide +kernel
theorem dL_acts_1042 : decode cL_acts 1042 = .ok (.iconst 0, 1) := by decide +kernel
theorem dL_acts_1043 : decode cL_acts 1043 = .ok (.ireturn, 1) := by decide +kernel
theorem dL_law_0 : decode cL_law 0 = .ok (.new 14, 3) := by decide +kernel
theorem dL_law_3 : decode cL_law 3 = .ok (.dup, 1) := by decide +kernel
theorem dL_law_4 : decode cL_law 4 = .ok (.invokespecial 97, 3) := by decide +kernel
theorem dL_law_7 : decode cL_law 7 = .ok (.astore_n 1, 1) := by decide +kernel
theorem dL_law_8 : decode cL_law 8 = .ok (.aload_n 1, 1) := by decide +kernel
theorem dL_law_9 : decode cL_law 9 = .ok (.invokestatic 98, 3) := by decide +kernel
theorem dL_law_12 : decode cL_law 12 = .ok (.ifCond .eq 16, 3) := by decide +kernel
theorem dL_law_15 : decode cL_law 15 = .ok (.aload_n 1, 1) := by decide +kernel
theorem dL_law_16 : decode cL_law 16 = .ok (.invokevirtual 101, 3) := by decide +kernel
theorem dL_law_19 : decode cL_law 19 = .ok (.ldc 53, 2) := by decide +kernel
theorem dL_law_21 : decode cL_law 21 = .ok (.if_icmp .ne 7, 3) := by decide +kernel
theorem dL_law_24 : decode cL_law 24 = .ok (.iconst 1, 1) := by decide +kernel
theorem dL_law_25 : decode cL_law 25 = .ok (.goto 4, 3) := by decide +kernel
theorem dL_law_28 : decode cL_law 28 = .ok (.iconst 0, 1) := by decide +kernel
theorem dL_law_29 : decode cL_law 29 = .ok (.istore_n 2, 1) := by decide +kernel
theorem dL_law_30 : decode cL_law 30 = .ok (.iconst 0, 1) := by decide +kernel
theorem dL_law_31 : decode cL_law 31 = .ok (.istore_n 3, 1) := by decide +kernel
theorem dL_law_32 : decode cL_law 32 = .ok (.iload_n 3, 1) := by decide +kernel
theorem dL_law_33 : decode cL_law 33 = .ok (.bipush 36, 2) := by decide +kernel
theorem dL_law_35 : decode cL_law 35 = .ok (.if_icmp .ge 227, 3) := by decide +kernel
theorem dL_law_38 : decode cL_law 38 = .ok (.iload_n 2, 1) := by decide +kernel
theorem dL_law_39 : decode cL_law 39 = .ok (.ifCond .eq 223, 3) := by decide +kernel
theorem dL_law_42 : decode cL_law 42 = .ok (.aload_n 0, 1) := by decide +kernel
theorem dL_law_43 : decode cL_law 43 = .ok (.iconst 2, 1) := by decide +kernel
theorem dL_law_44 : decode cL_law 44 = .ok (.iload_n 3, 1) := by decide +kernel
theorem dL_law_45 : decode cL_law 45 = .ok (.imul, 1) := by decide +kernel
theorem dL_law_46 : decode cL_law 46 = .ok (.invokestatic 104, 3) := by decide +kernel
theorem dL_law_49 : decode cL_law 49 = .ok (.istore 4, 2) := by decide +kernel
theorem dL_law_51 : decode cL_law 51 = .ok (.aload_n 0, 1) := by decide +kernel
theorem dL_law_52 : decode cL_law 52 = .ok (.iconst 2, 1) := by decide +kernel
theorem dL_law_53 : decode cL_law 53 = .ok (.iload_n 3, 1) := by decide +kernel
theorem dL_law_54 : decode cL_law 54 = .ok (.imul, 1) := by decide +kernel
theorem dL_law_55 : decode cL_law 55 = .ok (.iconst 1, 1) := by decide +kernel
theorem dL_law_56 : decode cL_law 56 = .ok (.iadd, 1) := by decide +kernel
theorem dL_law_57 : decode cL_law 57 = .ok (.invokestatic 104, 3) := by decide +kernel
theorem dL_law_60 : decode cL_law 60 = .ok (.istore 5, 2) := by decide +kernel
theorem dL_law_62 : decode cL_law 62 = .ok (.aload_n 1, 1) := by decide +kernel
theorem dL_law_63 : decode cL_law 63 = .ok (.invokestatic 108, 3) := by decide +kernel
theorem dL_law_66 : decode cL_law 66 = .ok (.lstore 6, 2) := by decide +kernel
theorem dL_law_68 : decode cL_law 68 = .ok (.aload_n 1, 1) := by decide +kernel
theorem dL_law_69 : decode cL_law 69 = .ok (.bipush 7, 2) := by decide +kernel
theorem dL_law_71 : decode cL_law 71 = .ok (.invokevirtual 13, 3) := by decide +kernel
theorem dL_law_74 : decode cL_law 74 = .ok (.istore 8, 2) := by decide +kernel
theorem dL_law_76 : decode cL_law 76 = .ok (.aload_n 1, 1) := by decide +kernel
theorem dL_law_77 : decode cL_law 77 = .ok (.iload_n 3, 1) := by decide +kernel
theorem dL_law_78 : decode cL_law 78 = .ok (.iconst 3, 1) := by decide +kernel
theorem dL_law_79 : decode cL_law 79 = .ok (.if_icmp .ge 7, 3) := by decide +kernel
theorem dL_law_82 : decode cL_law 82 = .ok (.iconst 0, 1) := by decide +kernel
theorem dL_law_83 : decode cL_law 83 = .ok (.goto 5, 3) := by decide +kernel
theorem dL_law_86 : decode cL_law 86 = .ok (.iload 4, 2) := by decide +kernel
theorem dL_law_88 : decode cL_law 88 = .ok (.iload 5, 2) := by decide +kernel
theorem dL_law_90 : decode cL_law 90 = .ok (.invokestatic 112, 3) := by decide +kernel
theorem dL_law_93 : decode cL_law 93 = .ok (.ifCond .eq 14, 3) := by decide +kernel
theorem dL_law_96 : decode cL_law 96 = .ok (.aload_n 1, 1) := by decide +kernel
theorem dL_law_97 : decode cL_law 97 = .ok (.invokestatic 98, 3) := by decide +kernel
theorem dL_law_100 : decode cL_law 100 = .ok (.ifCond .eq 7, 3) := by decide +kernel
theorem dL_law_103 : decode cL_law 103 = .ok (.iconst 1, 1) := by decide +kernel
theorem dL_law_104 : decode cL_law 104 = .ok (.goto 4, 3) := by decide +kernel
theorem dL_law_107 : decode cL_law 107 = .ok (.iconst 0, 1) := by decide +kernel
theorem dL_law_108 : decode cL_law 108 = .ok (.istore_n 2, 1) := by decide +kernel
theorem dL_law_109 : decode cL_law 109 = .ok (.aload_n 1, 1) := by decide +kernel
theorem dL_law_110 : decode cL_law 110 = .ok (.bipush 7, 2) := by decide +kernel
theorem dL_law_112 : decode cL_law 112 = .ok (.invokevirtual 13, 3) := by decide +kernel
theorem dL_law_115 : decode cL_law 115 = .ok (.istore 9, 2) := by decide +kernel
theorem dL_law_117 : decode cL_law 117 = .ok (.iload_n 2, 1) := by decide +kernel
theorem dL_law_118 : decode cL_law 118 = .ok (.ifCond .eq 39, 3) := by decide +kernel
theorem dL_law_121 : decode cL_law 121 = .ok (.iload 9, 2) := by decide +kernel
theorem dL_law_123 : decode cL_law 123 = .ok (.iload 8, 2) := by decide +kernel
theorem dL_law_125 : decode cL_law 125 = .ok (.if_icmp .ne 19, 3) := by decide +kernel
theorem dL_law_128 : decode cL_law 128 = .ok (.iload 8, 2) := by decide +kernel
theorem dL_law_130 : decode cL_law 130 = .ok (.iconst 4, 1) := by decide +kernel
theorem dL_law_131 : decode cL_law 131 = .ok (.if_icmp .eq 22, 3) := by decide +kernel
theorem dL_law_134 : decode cL_law 134 = .ok (.aload_n 1, 1) := by decide +kernel
theorem dL_law_135 : decode cL_law 135 = .ok (.invokestatic 108, 3) := by decide +kernel
theorem dL_law_138 : decode cL_law 138 = .ok (.lload 6, 2) := by decide +kernel
theorem dL_law_140 : decode cL_law 140 = .ok (.lcmp, 1) := by decide +kernel
theorem dL_law_141 : decode cL_law 141 = .ok (.ifCond .eq 12, 3) := by decide +kernel
theorem dL_law_144 : decode cL_law 144 = .ok (.iload 9, 2) := by decide +kernel
theorem dL_law_146 : decode cL_law 146 = .ok (.iload 8, 2) := by decide +kernel
theorem dL_law_148 : decode cL_law 148 = .ok (.iconst 1, 1) := by decide +kernel
theorem dL_law_149 : decode cL_law 149 = .ok (.iadd, 1) := by decide +kernel
theorem dL_law_150 : decode cL_law 150 = .ok (.if_icmp .ne 7, 3) := by decide +kernel
theorem dL_law_153 : decode cL_law 153 = .ok (.iconst 1, 1) := by decide +kernel
theorem dL_law_154 : decode cL_law 154 = .ok (.goto 4, 3) := by decide +kernel
theorem dL_law_157 : decode cL_law 157 = .ok (.iconst 0, 1) := by decide +kernel
theorem dL_law_158 : decode cL_law 158 = .ok (.istore_n 2, 1) := by decide +kernel
theorem dL_law_159 : decode cL_law 159 = .ok (.iload_n 2, 1) := by decide +kernel
theorem dL_law_160 : decode cL_law 160 = .ok (.ifCond .eq 49, 3) := by decide +kernel
theorem dL_law_163 : decode cL_law 163 = .ok (.iload 9, 2) := by decide +kernel
theorem dL_law_165 : decode cL_law 165 = .ok (.iload 8, 2) := by decide +kernel
theorem dL_law_167 : decode cL_law 167 = .ok (.iconst 1, 1) := by decide +kernel
theorem dL_law_168 : decode cL_law 168 = .ok (.iadd, 1) := by decide +kernel
theorem dL_law_169 : decode cL_law 169 = .ok (.if_icmp .ne 40, 3) := by decide +kernel
theorem dL_law_172 : decode cL_law 172 = .ok (.iload 5, 2) := by decide +kernel
theorem dL_law_174 : decode cL_law 174 = .ok (.bipush 8, 2) := by decide +kernel
theorem dL_law_176 : decode cL_law 176 = .ok (.ishr, 1) := by decide +kernel
theorem dL_law_177 : decode cL_law 177 = .ok (.iconst 3, 1) := by decide +kernel
theorem dL_law_178 : decode cL_law 178 = .ok (.invokestatic 36, 3) := by decide +kernel
theorem dL_law_181 : decode cL_law 181 = .ok (.ifCond .ne 28, 3) := by decide +kernel
theorem dL_law_184 : decode cL_law 184 = .ok (.aload_n 1, 1) := by decide +kernel
theorem dL_law_185 : decode cL_law 185 = .ok (.invokevirtual 101, 3) := by decide +kernel
theorem dL_law_188 : decode cL_law 188 = .ok (.iload 8, 2) := by decide +kernel
theorem dL_law_190 : decode cL_law 190 = .ok (.if_icmp .ne 17, 3) := by decide +kernel
theorem dL_law_193 : decode cL_law 193 = .ok (.aload_n 1, 1) := by decide +kernel
theorem dL_law_194 : decode cL_law 194 = .ok (.invokestatic 108, 3) := by decide +kernel
theorem dL_law_197 : decode cL_law 197 = .ok (.lload 6, 2) := by decide +kernel
theorem dL_law_199 : decode cL_law 199 = .ok (.lcmp, 1) := by decide +kernel
theorem dL_law_200 : decode cL_law 200 = .ok (.ifCond .ne 7, 3) := by decide +kernel
theorem dL_law_203 : decode cL_law 203 = .ok (.iconst 1, 1) := by decide +kernel
theorem dL_law_204 : decode cL_law 204 = .ok (.goto 4, 3) := by decide +kernel
theorem dL_law_207 : decode cL_law 207 = .ok (.iconst 0, 1) := by decide +kernel
theorem dL_law_208 : decode cL_law 208 = .ok (.istore_n 2, 1) := by decide +kernel
theorem dL_law_209 : decode cL_law 209 = .ok (.iload_n 2, 1) := by decide +kernel
theorem dL_law_210 : decode cL_law 210 = .ok (.ifCond .eq 46, 3) := by decide +kernel
theorem dL_law_213 : decode cL_law 213 = .ok (.iload_n 3, 1) := by decide +kernel
theorem dL_law_214 : decode cL_law 214 = .ok (.bipush 6, 2) := by decide +kernel
theorem dL_law_216 : decode cL_law 216 = .ok (.irem, 1) := by decide +kernel
theorem dL_law_217 : decode cL_law 217 = .ok (.iconst 5, 1) := by decide +kernel
theorem dL_law_218 : decode cL_law 218 = .ok (.if_icmp .ne 38, 3) := by decide +kernel
theorem dL_law_221 : decode cL_law 221 = .ok (.aload_n 1, 1) := by decide +kernel
theorem dL_law_222 : decode cL_law 222 = .ok (.bipush 7, 2) := by decide +kernel
theorem dL_law_224 : decode cL_law 224 = .ok (.invokevirtual 13, 3) := by decide +kernel
theorem dL_law_227 : decode cL_law 227 = .ok (.istore 10, 2) := by decide +kernel
theorem dL_law_229 : decode cL_law 229 = .ok (.aload_n 1, 1) := by decide +kernel
theorem dL_law_230 : decode cL_law 230 = .ok (.invokevirtual 101, 3) := by decide +kernel
theorem dL_law_233 : decode cL_law 233 = .ok (.iload 10, 2) := by decide +kernel
theorem dL_law_235 : decode cL_law 235 = .ok (.ifCond .ne 8, 3) := by decide +kernel
theorem dL_law_238 : decode cL_law 238 = .ok (.ldc 53, 2) := by decide +kernel
theorem dL_law_240 : decode cL_law 240 = .ok (.goto 7, 3) := by decide +kernel
theorem dL_law_243 : decode cL_law 243 = .ok (.iload 10, 2) := by decide +kernel
theorem dL_law_245 : decode cL_law 245 = .ok (.iconst 1, 1) := by decide +kernel
theorem dL_law_246 : decode cL_law 246 = .ok (.isub, 1) := by decide +kernel
theorem dL_law_247 : decode cL_law 247 = .ok (.if_icmp .ne 7, 3) := by decide +kernel
theorem dL_law_250 : decode cL_law 250 = .ok (.iconst 1, 1) := by decide +kernel
theorem dL_law_251 : decode cL_law 251 = .ok (.goto 4, 3) := by decide +kernel
theorem dL_law_254 : decode cL_law 254 = .ok (.iconst 0, 1) := by decide +kernel
theorem dL_law_255 : decode cL_law 255 = .ok (.istore_n 2, 1) := by decide +kernel
theorem dL_law_256 : decode cL_law 256 = .ok (.iinc 3 1, 3) := by decide +kernel
theorem dL_law_259 : decode cL_law 259 = .ok (.goto (-227), 3) := by decide +kernel
theorem dL_law_262 : decode cL_law 262 = .ok (.iload_n 2, 1) := by decide +kernel
theorem dL_law_263 : decode cL_law 263 = .ok (.ireturn, 1) := by decide +kernel
