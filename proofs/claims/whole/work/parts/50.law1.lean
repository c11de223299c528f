/-! the law, instruction by instruction -/
theorem dL_law_540 : decode code 540 = .ok (.iaload, 1) := by decide +kernel
theorem dL_law_541 : decode code 541 = .ok (.aload_n 0, 1) := by decide +kernel
theorem dL_law_542 : decode code 542 = .ok (.iload 4, 2) := by decide +kernel
theorem dL_law_544 : decode code 544 = .ok (.iconst 2, 1) := by decide +kernel
theorem dL_law_545 : decode code 545 = .ok (.iadd, 1) := by decide +kernel
theorem dL_law_546 : decode code 546 = .ok (.iaload, 1) := by decide +kernel
theorem dL_law_547 : decode code 547 = .ok (.aload_n 0, 1) := by decide +kernel
theorem dL_law_548 : decode code 548 = .ok (.iload 4, 2) := by decide +kernel
theorem dL_law_550 : decode code 550 = .ok (.iconst 3, 1) := by decide +kernel
theorem dL_law_551 : decode code 551 = .ok (.iadd, 1) := by decide +kernel
theorem dL_law_552 : decode code 552 = .ok (.iaload, 1) := by decide +kernel
theorem dL_law_553 : decode code 553 = .ok (.aload_n 3, 1) := by decide +kernel
theorem dL_law_554 : decode code 554 = .ok (.invokestatic 65, 3) := by decide +kernel
theorem dL_law_557 : decode code 557 = .ok (.istore 5, 2) := by decide +kernel
theorem dL_law_559 : decode code 559 = .ok (.aload_n 2, 1) := by decide +kernel
theorem dL_law_560 : decode code 560 = .ok (.aload_n 0, 1) := by decide +kernel
theorem dL_law_561 : decode code 561 = .ok (.iload 4, 2) := by decide +kernel
theorem dL_law_563 : decode code 563 = .ok (.iconst 1, 1) := by decide +kernel
theorem dL_law_564 : decode code 564 = .ok (.iadd, 1) := by decide +kernel
theorem dL_law_565 : decode code 565 = .ok (.iaload, 1) := by decide +kernel
theorem dL_law_566 : decode code 566 = .ok (.aload_n 0, 1) := by decide +kernel
theorem dL_law_567 : decode code 567 = .ok (.iload 4, 2) := by decide +kernel
theorem dL_law_569 : decode code 569 = .ok (.iconst 2, 1) := by decide +kernel
theorem dL_law_570 : decode code 570 = .ok (.iadd, 1) := by decide +kernel
theorem dL_law_571 : decode code 571 = .ok (.iaload, 1) := by decide +kernel
theorem dL_law_572 : decode code 572 = .ok (.aload_n 0, 1) := by decide +kernel
theorem dL_law_573 : decode code 573 = .ok (.iload 4, 2) := by decide +kernel
theorem dL_law_575 : decode code 575 = .ok (.iconst 3, 1) := by decide +kernel
theorem dL_law_576 : decode code 576 = .ok (.iadd, 1) := by decide +kernel
theorem dL_law_577 : decode code 577 = .ok (.iaload, 1) := by decide +kernel
theorem dL_law_578 : decode code 578 = .ok (.invokevirtual 70, 3) := by decide +kernel
theorem dL_law_581 : decode code 581 = .ok (.istore 6, 2) := by decide +kernel
theorem dL_law_583 : decode code 583 = .ok (.aload_n 2, 1) := by decide +kernel
theorem dL_law_584 : decode code 584 = .ok (.invokevirtual 71, 3) := by decide +kernel
theorem dL_law_587 : decode code 587 = .ok (.iload 5, 2) := by decide +kernel
theorem dL_law_589 : decode code 589 = .ok (.if_icmp .eq 5, 3) := by decide +kernel
theorem dL_law_592 : decode code 592 = .ok (.iconst 0, 1) := by decide +kernel
theorem dL_law_593 : decode code 593 = .ok (.ireturn, 1) := by decide +kernel
theorem dL_law_594 : decode code 594 = .ok (.iload 5, 2) := by decide +kernel
theorem dL_law_596 : decode code 596 = .ok (.ifCond .ne 15, 3) := by decide +kernel
theorem dL_law_599 : decode code 599 = .ok (.aload_n 3, 1) := by decide +kernel
theorem dL_law_600 : decode code 600 = .ok (.iconst 0, 1) := by decide +kernel
theorem dL_law_601 : decode code 601 = .ok (.laload, 1) := by decide +kernel
theorem dL_law_602 : decode code 602 = .ok (.iload 6, 2) := by decide +kernel
theorem dL_law_604 : decode code 604 = .ok (.i2l, 1) := by decide +kernel
theorem dL_law_605 : decode code 605 = .ok (.lcmp, 1) := by decide +kernel
theorem dL_law_606 : decode code 606 = .ok (.ifCond .eq 5, 3) := by decide +kernel
theorem dL_law_609 : decode code 609 = .ok (.iconst 0, 1) := by decide +kernel
theorem dL_law_610 : decode code 610 = .ok (.ireturn, 1) := by decide +kernel
theorem dL_law_611 : decode code 611 = .ok (.goto 1028, 3) := by decide +kernel
theorem dL_law_614 : decode code 614 = .ok (.aload_n 1, 1) := by decide +kernel
theorem dL_law_615 : decode code 615 = .ok (.aload_n 0, 1) := by decide +kernel
theorem dL_law_616 : decode code 616 = .ok (.iload 4, 2) := by decide +kernel
theorem dL_law_618 : decode code 618 = .ok (.iconst 1, 1) := by decide +kernel
theorem dL_law_619 : decode code 619 = .ok (.iadd, 1) := by decide +kernel
theorem dL_law_620 : decode code 620 = .ok (.iaload, 1) := by decide +kernel
theorem dL_law_621 : decode code 621 = .ok (.aload_n 0, 1) := by decide +kernel
theorem dL_law_622 : decode code 622 = .ok (.iload 4, 2) := by decide +kernel
theorem dL_law_624 : decode code 624 = .ok (.iconst 2, 1) := by decide +kernel
theorem dL_law_625 : decode code 625 = .ok (.iadd, 1) := by decide +kernel
theorem dL_law_626 : decode code 626 = .ok (.iaload, 1) := by decide +kernel
theorem dL_law_627 : decode code 627 = .ok (.aload_n 0, 1) := by decide +kernel
theorem dL_law_628 : decode code 628 = .ok (.iload 4, 2) := by decide +kernel
theorem dL_law_630 : decode code 630 = .ok (.iconst 3, 1) := by decide +kernel
theorem dL_law_631 : decode code 631 = .ok (.iadd, 1) := by decide +kernel
theorem dL_law_632 : decode code 632 = .ok (.iaload, 1) := by decide +kernel
theorem dL_law_633 : decode code 633 = .ok (.aload_n 0, 1) := by decide +kernel
theorem dL_law_634 : decode code 634 = .ok (.iload 4, 2) := by decide +kernel
theorem dL_law_636 : decode code 636 = .ok (.iconst 4, 1) := by decide +kernel
theorem dL_law_637 : decode code 637 = .ok (.iadd, 1) := by decide +kernel
theorem dL_law_638 : decode code 638 = .ok (.iaload, 1) := by decide +kernel
theorem dL_law_639 : decode code 639 = .ok (.ifCond .eq 7, 3) := by decide +kernel
theorem dL_law_642 : decode code 642 = .ok (.iconst 1, 1) := by decide +kernel
theorem dL_law_643 : decode code 643 = .ok (.goto 4, 3) := by decide +kernel
theorem dL_law_646 : decode code 646 = .ok (.iconst 0, 1) := by decide +kernel
theorem dL_law_647 : decode code 647 = .ok (.invokevirtual 74, 3) := by decide +kernel
theorem dL_law_650 : decode code 650 = .ok (.aload_n 2, 1) := by decide +kernel
theorem dL_law_651 : decode code 651 = .ok (.aload_n 0, 1) := by decide +kernel
theorem dL_law_652 : decode code 652 = .ok (.iload 4, 2) := by decide +kernel
theorem dL_law_654 : decode code 654 = .ok (.iconst 1, 1) := by decide +kernel
theorem dL_law_655 : decode code 655 = .ok (.iadd, 1) := by decide +kernel
theorem dL_law_656 : decode code 656 = .ok (.iaload, 1) := by decide +kernel
theorem dL_law_657 : decode code 657 = .ok (.aload_n 0, 1) := by decide +kernel
theorem dL_law_658 : decode code 658 = .ok (.iload 4, 2) := by decide +kernel
theorem dL_law_660 : decode code 660 = .ok (.iconst 2, 1) := by decide +kernel
theorem dL_law_661 : decode code 661 = .ok (.iadd, 1) := by decide +kernel
theorem dL_law_662 : decode code 662 = .ok (.iaload, 1) := by decide +kernel
theorem dL_law_663 : decode code 663 = .ok (.aload_n 0, 1) := by decide +kernel
theorem dL_law_664 : decode code 664 = .ok (.iload 4, 2) := by decide +kernel
theorem dL_law_666 : decode code 666 = .ok (.iconst 3, 1) := by decide +kernel
theorem dL_law_667 : decode code 667 = .ok (.iadd, 1) := by decide +kernel
theorem dL_law_668 : decode code 668 = .ok (.iaload, 1) := by decide +kernel
theorem dL_law_669 : decode code 669 = .ok (.aload_n 0, 1) := by decide +kernel
theorem dL_law_670 : decode code 670 = .ok (.iload 4, 2) := by decide +kernel
theorem dL_law_672 : decode code 672 = .ok (.iconst 4, 1) := by decide +kernel
theorem dL_law_673 : decode code 673 = .ok (.iadd, 1) := by decide +kernel
theorem dL_law_674 : decode code 674 = .ok (.iaload, 1) := by decide +kernel
theorem dL_law_675 : decode code 675 = .ok (.ifCond .eq 7, 3) := by decide +kernel
theorem dL_law_678 : decode code 678 = .ok (.iconst 1, 1) := by decide +kernel
theorem dL_law_679 : decode code 679 = .ok (.goto 4, 3) := by decide +kernel
theorem dL_law_682 : decode code 682 = .ok (.iconst 0, 1) := by decide +kernel
theorem dL_law_683 : decode code 683 = .ok (.invokevirtual 78, 3) := by decide +kernel
theorem dL_law_686 : decode code 686 = .ok (.if_icmp .eq 953, 3) := by decide +kernel
theorem dL_law_689 : decode code 689 = .ok (.iconst 0, 1) := by decide +kernel
theorem dL_law_690 : decode code 690 = .ok (.ireturn, 1) := by decide +kernel
theorem dL_law_691 : decode code 691 = .ok (.aload_n 1, 1) := by decide +kernel
theorem dL_law_692 : decode code 692 = .ok (.aload_n 0, 1) := by decide +kernel
theorem dL_law_693 : decode code 693 = .ok (.iload 4, 2) := by decide +kernel
theorem dL_law_695 : decode code 695 = .ok (.iconst 1, 1) := by decide +kernel
theorem dL_law_696 : decode code 696 = .ok (.iadd, 1) := by decide +kernel
theorem dL_law_697 : decode code 697 = .ok (.iaload, 1) := by decide +kernel
theorem dL_law_698 : decode code 698 = .ok (.aload_n 0, 1) := by decide +kernel
theorem dL_law_699 : decode code 699 = .ok (.iload 4, 2) := by decide +kernel
theorem dL_law_701 : decode code 701 = .ok (.iconst 2, 1) := by decide +kernel
theorem dL_law_702 : decode code 702 = .ok (.iadd, 1) := by decide +kernel
theorem dL_law_703 : decode code 703 = .ok (.iaload, 1) := by decide +kernel
theorem dL_law_704 : decode code 704 = .ok (.aload_n 0, 1) := by decide +kernel
theorem dL_law_705 : decode code 705 = .ok (.iload 4, 2) := by decide +kernel
theorem dL_law_707 : decode code 707 = .ok (.iconst 3, 1) := by decide +kernel
theorem dL_law_708 : decode code 708 = .ok (.iadd, 1) := by decide +kernel
theorem dL_law_709 : decode code 709 = .ok (.iaload, 1) := by decide +kernel
theorem dL_law_710 : decode code 710 = .ok (.aload_n 0, 1) := by decide +kernel
theorem dL_law_711 : decode code 711 = .ok (.iload 4, 2) := by decide +kernel
theorem dL_law_713 : decode code 713 = .ok (.iconst 4, 1) := by decide +kernel
theorem dL_law_714 : decode code 714 = .ok (.iadd, 1) := by decide +kernel
theorem dL_law_715 : decode code 715 = .ok (.iaload, 1) := by decide +kernel
theorem dL_law_716 : decode code 716 = .ok (.invokevirtual 79, 3) := by decide +kernel
theorem dL_law_719 : decode code 719 = .ok (.aload_n 2, 1) := by decide +kernel
theorem dL_law_720 : decode code 720 = .ok (.aload_n 0, 1) := by decide +kernel
theorem dL_law_721 : decode code 721 = .ok (.iload 4, 2) := by decide +kernel
theorem dL_law_723 : decode code 723 = .ok (.iconst 1, 1) := by decide +kernel
theorem dL_law_724 : decode code 724 = .ok (.iadd, 1) := by decide +kernel
theorem dL_law_725 : decode code 725 = .ok (.iaload, 1) := by decide +kernel
theorem dL_law_726 : decode code 726 = .ok (.aload_n 0, 1) := by decide +kernel
theorem dL_law_727 : decode code 727 = .ok (.iload 4, 2) := by decide +kernel
theorem dL_law_729 : decode code 729 = .ok (.iconst 2, 1) := by decide +kernel
theorem dL_law_730 : decode code 730 = .ok (.iadd, 1) := by decide +kernel
theorem dL_law_731 : decode code 731 = .ok (.iaload, 1) := by decide +kernel
theorem dL_law_732 : decode code 732 = .ok (.aload_n 0, 1) := by decide +kernel
theorem dL_law_733 : decode code 733 = .ok (.iload 4, 2) := by decide +kernel
theorem dL_law_735 : decode code 735 = .ok (.iconst 3, 1) := by decide +kernel
theorem dL_law_736 : decode code 736 = .ok (.iadd, 1) := by decide +kernel
theorem dL_law_737 : decode code 737 = .ok (.iaload, 1) := by decide +kernel
theorem dL_law_738 : decode code 738 = .ok (.aload_n 0, 1) := by decide +kernel
theorem dL_law_739 : decode code 739 = .ok (.iload 4, 2) := by decide +kernel
theorem dL_law_741 : decode code 741 = .ok (.iconst 4, 1) := by decide +kernel
theorem dL_law_742 : decode code 742 = .ok (.iadd, 1) := by decide +kernel
theorem dL_law_743 : decode code 743 = .ok (.iaload, 1) := by decide +kernel
theorem dL_law_744 : decode code 744 = .ok (.invokevirtual 83, 3) := by decide +kernel
theorem dL_law_747 : decode code 747 = .ok (.if_icmp .eq 892, 3) := by decide +kernel
theorem dL_law_750 : decode code 750 = .ok (.iconst 0, 1) := by decide +kernel
theorem dL_law_751 : decode code 751 = .ok (.ireturn, 1) := by decide +kernel
theorem dL_law_752 : decode code 752 = .ok (.aload_n 1, 1) := by decide +kernel
theorem dL_law_753 : decode code 753 = .ok (.aload_n 0, 1) := by decide +kernel
theorem dL_law_754 : decode code 754 = .ok (.iload 4, 2) := by decide +kernel
theorem dL_law_756 : decode code 756 = .ok (.iconst 1, 1) := by decide +kernel
theorem dL_law_757 : decode code 757 = .ok (.iadd, 1) := by decide +kernel
theorem dL_law_758 : decode code 758 = .ok (.iaload, 1) := by decide +kernel
theorem dL_law_759 : decode code 759 = .ok (.aload_n 0, 1) := by decide +kernel
theorem dL_law_760 : decode code 760 = .ok (.iload 4, 2) := by decide +kernel
theorem dL_law_762 : decode code 762 = .ok (.iconst 2, 1) := by decide +kernel
theorem dL_law_763 : decode code 763 = .ok (.iadd, 1) := by decide +kernel
theorem dL_law_764 : decode code 764 = .ok (.iaload, 1) := by decide +kernel
theorem dL_law_765 : decode code 765 = .ok (.invokevirtual 84, 3) := by decide +kernel
theorem dL_law_768 : decode code 768 = .ok (.aload_n 2, 1) := by decide +kernel
theorem dL_law_769 : decode code 769 = .ok (.aload_n 0, 1) := by decide +kernel
theorem dL_law_770 : decode code 770 = .ok (.iload 4, 2) := by decide +kernel
theorem dL_law_772 : decode code 772 = .ok (.iconst 1, 1) := by decide +kernel
theorem dL_law_773 : decode code 773 = .ok (.iadd, 1) := by decide +kernel
theorem dL_law_774 : decode code 774 = .ok (.iaload, 1) := by decide +kernel
theorem dL_law_775 : decode code 775 = .ok (.aload_n 0, 1) := by decide +kernel
theorem dL_law_776 : decode code 776 = .ok (.iload 4, 2) := by decide +kernel
theorem dL_law_778 : decode code 778 = .ok (.iconst 2, 1) := by decide +kernel
theorem dL_law_779 : decode code 779 = .ok (.iadd, 1) := by decide +kernel
theorem dL_law_780 : decode code 780 = .ok (.iaload, 1) := by decide +kernel
theorem dL_law_781 : decode code 781 = .ok (.invokevirtual 87, 3) := by decide +kernel
theorem dL_law_784 : decode code 784 = .ok (.if_icmp .eq 855, 3) := by decide +kernel
theorem dL_law_787 : decode code 787 = .ok (.iconst 0, 1) := by decide +kernel
theorem dL_law_788 : decode code 788 = .ok (.ireturn, 1) := by decide +kernel
theorem dL_law_789 : decode code 789 = .ok (.aload_n 1, 1) := by decide +kernel
theorem dL_law_790 : decode code 790 = .ok (.aload_n 0, 1) := by decide +kernel
theorem dL_law_791 : decode code 791 = .ok (.iload 4, 2) := by decide +kernel
theorem dL_law_793 : decode code 793 = .ok (.iconst 1, 1) := by decide +kernel
theorem dL_law_794 : decode code 794 = .ok (.iadd, 1) := by decide +kernel
theorem dL_law_795 : decode code 795 = .ok (.iaload, 1) := by decide +kernel
theorem dL_law_796 : decode code 796 = .ok (.aload_n 0, 1) := by decide +kernel
theorem dL_law_797 : decode code 797 = .ok (.iload 4, 2) := by decide +kernel
theorem dL_law_799 : decode code 799 = .ok (.iconst 2, 1) := by decide +kernel
theorem dL_law_800 : decode code 800 = .ok (.iadd, 1) := by decide +kernel
theorem dL_law_801 : decode code 801 = .ok (.iaload, 1) := by decide +kernel
theorem dL_law_802 : decode code 802 = .ok (.aload_n 0, 1) := by decide +kernel
theorem dL_law_803 : decode code 803 = .ok (.iload 4, 2) := by decide +kernel
theorem dL_law_805 : decode code 805 = .ok (.iconst 3, 1) := by decide +kernel
theorem dL_law_806 : decode code 806 = .ok (.iadd, 1) := by decide +kernel
theorem dL_law_807 : decode code 807 = .ok (.iaload, 1) := by decide +kernel
theorem dL_law_808 : decode code 808 = .ok (.invokevirtual 88, 3) := by decide +kernel
theorem dL_law_811 : decode code 811 = .ok (.aload_n 2, 1) := by decide +kernel
theorem dL_law_812 : decode code 812 = .ok (.aload_n 0, 1) := by decide +kernel
theorem dL_law_813 : decode code 813 = .ok (.iload 4, 2) := by decide +kernel
theorem dL_law_815 : decode code 815 = .ok (.iconst 1, 1) := by decide +kernel
theorem dL_law_816 : decode code 816 = .ok (.iadd, 1) := by decide +kernel
theorem dL_law_817 : decode code 817 = .ok (.iaload, 1) := by decide +kernel
theorem dL_law_818 : decode code 818 = .ok (.aload_n 0, 1) := by decide +kernel
theorem dL_law_819 : decode code 819 = .ok (.iload 4, 2) := by decide +kernel
theorem dL_law_821 : decode code 821 = .ok (.iconst 2, 1) := by decide +kernel
theorem dL_law_822 : decode code 822 = .ok (.iadd, 1) := by decide +kernel
theorem dL_law_823 : decode code 823 = .ok (.iaload, 1) := by decide +kernel
theorem dL_law_824 : decode code 824 = .ok (.aload_n 0, 1) := by decide +kernel
theorem dL_law_825 : decode code 825 = .ok (.iload 4, 2) := by decide +kernel
theorem dL_law_827 : decode code 827 = .ok (.iconst 3, 1) := by decide +kernel
theorem dL_law_828 : decode code 828 = .ok (.iadd, 1) := by decide +kernel
theorem dL_law_829 : decode code 829 = .ok (.iaload, 1) := by decide +kernel
theorem dL_law_830 : decode code 830 = .ok (.invokevirtual 91, 3) := by decide +kernel
theorem dL_law_833 : decode code 833 = .ok (.if_icmp .eq 806, 3) := by decide +kernel
theorem dL_law_836 : decode code 836 = .ok (.iconst 0, 1) := by decide +kernel
theorem dL_law_837 : decode code 837 = .ok (.ireturn, 1) := by decide +kernel
theorem dL_law_838 : decode code 838 = .ok (.aload_n 1, 1) := by decide +kernel
theorem dL_law_839 : decode code 839 = .ok (.aload_n 0, 1) := by decide +kernel
theorem dL_law_840 : decode code 840 = .ok (.iload 4, 2) := by decide +kernel
theorem dL_law_842 : decode code 842 = .ok (.iconst 1, 1) := by decide +kernel
theorem dL_law_843 : decode code 843 = .ok (.iadd, 1) := by decide +kernel
theorem dL_law_844 : decode code 844 = .ok (.iaload, 1) := by decide +kernel
theorem dL_law_845 : decode code 845 = .ok (.aload_n 0, 1) := by decide +kernel
theorem dL_law_846 : decode code 846 = .ok (.iload 4, 2) := by decide +kernel
theorem dL_law_848 : decode code 848 = .ok (.iconst 2, 1) := by decide +kernel
theorem dL_law_849 : decode code 849 = .ok (.iadd, 1) := by decide +kernel
theorem dL_law_850 : decode code 850 = .ok (.iaload, 1) := by decide +kernel
theorem dL_law_851 : decode code 851 = .ok (.invokevirtual 92, 3) := by decide +kernel
theorem dL_law_854 : decode code 854 = .ok (.aload_n 2, 1) := by decide +kernel
theorem dL_law_855 : decode code 855 = .ok (.aload_n 0, 1) := by decide +kernel
theorem dL_law_856 : decode code 856 = .ok (.iload 4, 2) := by decide +kernel
theorem dL_law_858 : decode code 858 = .ok (.iconst 1, 1) := by decide +kernel
theorem dL_law_859 : decode code 859 = .ok (.iadd, 1) := by decide +kernel
theorem dL_law_860 : decode code 860 = .ok (.iaload, 1) := by decide +kernel
theorem dL_law_861 : decode code 861 = .ok (.aload_n 0, 1) := by decide +kernel
theorem dL_law_862 : decode code 862 = .ok (.iload 4, 2) := by decide +kernel
theorem dL_law_864 : decode code 864 = .ok (.iconst 2, 1) := by decide +kernel
theorem dL_law_865 : decode code 865 = .ok (.iadd, 1) := by decide +kernel
theorem dL_law_866 : decode code 866 = .ok (.iaload, 1) := by decide +kernel
theorem dL_law_867 : decode code 867 = .ok (.invokevirtual 95, 3) := by decide +kernel
theorem dL_law_870 : decode code 870 = .ok (.if_icmp .eq 769, 3) := by decide +kernel
theorem dL_law_873 : decode code 873 = .ok (.iconst 0, 1) := by decide +kernel
theorem dL_law_874 : decode code 874 = .ok (.ireturn, 1) := by decide +kernel
theorem dL_law_875 : decode code 875 = .ok (.aload_n 1, 1) := by decide +kernel
theorem dL_law_876 : decode code 876 = .ok (.aload_n 0, 1) := by decide +kernel
theorem dL_law_877 : decode code 877 = .ok (.iload 4, 2) := by decide +kernel
theorem dL_law_879 : decode code 879 = .ok (.iconst 1, 1) := by decide +kernel
theorem dL_law_880 : decode code 880 = .ok (.iadd, 1) := by decide +kernel
theorem dL_law_881 : decode code 881 = .ok (.iaload, 1) := by decide +kernel
theorem dL_law_882 : decode code 882 = .ok (.aload_n 0, 1) := by decide +kernel
theorem dL_law_883 : decode code 883 = .ok (.iload 4, 2) := by decide +kernel
theorem dL_law_885 : decode code 885 = .ok (.iconst 2, 1) := by decide +kernel
theorem dL_law_886 : decode code 886 = .ok (.iadd, 1) := by decide +kernel
theorem dL_law_887 : decode code 887 = .ok (.iaload, 1) := by decide +kernel
theorem dL_law_888 : decode code 888 = .ok (.aload_n 0, 1) := by decide +kernel
theorem dL_law_889 : decode code 889 = .ok (.iload 4, 2) := by decide +kernel
theorem dL_law_891 : decode code 891 = .ok (.iconst 3, 1) := by decide +kernel
theorem dL_law_892 : decode code 892 = .ok (.iadd, 1) := by decide +kernel
theorem dL_law_893 : decode code 893 = .ok (.iaload, 1) := by decide +kernel
theorem dL_law_894 : decode code 894 = .ok (.invokevirtual 96, 3) := by decide +kernel
theorem dL_law_897 : decode code 897 = .ok (.aload_n 2, 1) := by decide +kernel
theorem dL_law_898 : decode code 898 = .ok (.aload_n 0, 1) := by decide +kernel
theorem dL_law_899 : decode code 899 = .ok (.iload 4, 2) := by decide +kernel
theorem dL_law_901 : decode code 901 = .ok (.iconst 1, 1) := by decide +kernel
theorem dL_law_902 : decode code 902 = .ok (.iadd, 1) := by decide +kernel
theorem dL_law_903 : decode code 903 = .ok (.iaload, 1) := by decide +kernel
theorem dL_law_904 : decode code 904 = .ok (.aload_n 0, 1) := by decide +kernel
theorem dL_law_905 : decode code 905 = .ok (.iload 4, 2) := by decide +kernel
theorem dL_law_907 : decode code 907 = .ok (.iconst 2, 1) := by decide +kernel
theorem dL_law_908 : decode code 908 = .ok (.iadd, 1) := by decide +kernel
