theorem d_La_law_721 : decode code 721 = .ok (.iaload, 1) := by decide +kernel
theorem d_La_law_722 : decode code 722 = .ok (.invokevirtual 108, 3) := by decide +kernel
theorem d_La_law_725 : decode code 725 = .ok (.istore 6, 2) := by decide +kernel
theorem d_La_law_727 : decode code 727 = .ok (.aload_n 2, 1) := by decide +kernel
theorem d_La_law_728 : decode code 728 = .ok (.invokevirtual 68, 3) := by decide +kernel
theorem d_La_law_731 : decode code 731 = .ok (.iload 5, 2) := by decide +kernel
theorem d_La_law_733 : decode code 733 = .ok (.if_icmp .eq 5, 3) := by decide +kernel
theorem d_La_law_736 : decode code 736 = .ok (.iconst 0, 1) := by decide +kernel
theorem d_La_law_737 : decode code 737 = .ok (.ireturn, 1) := by decide +kernel
theorem d_La_law_738 : decode code 738 = .ok (.iload 5, 2) := by decide +kernel
theorem d_La_law_740 : decode code 740 = .ok (.ifCond .ne 15, 3) := by decide +kernel
theorem d_La_law_743 : decode code 743 = .ok (.aload_n 3, 1) := by decide +kernel
theorem d_La_law_744 : decode code 744 = .ok (.iconst 0, 1) := by decide +kernel
theorem d_La_law_745 : decode code 745 = .ok (.laload, 1) := by decide +kernel
theorem d_La_law_746 : decode code 746 = .ok (.iload 6, 2) := by decide +kernel
theorem d_La_law_748 : decode code 748 = .ok (.i2l, 1) := by decide +kernel
theorem d_La_law_749 : decode code 749 = .ok (.lcmp, 1) := by decide +kernel
theorem d_La_law_750 : decode code 750 = .ok (.ifCond .eq 5, 3) := by decide +kernel
theorem d_La_law_753 : decode code 753 = .ok (.iconst 0, 1) := by decide +kernel
theorem d_La_law_754 : decode code 754 = .ok (.ireturn, 1) := by decide +kernel
theorem d_La_law_755 : decode code 755 = .ok (.goto 43, 3) := by decide +kernel
theorem d_La_law_758 : decode code 758 = .ok (.aload_n 1, 1) := by decide +kernel
theorem d_La_law_759 : decode code 759 = .ok (.invokevirtual 109, 3) := by decide +kernel
theorem d_La_law_762 : decode code 762 = .ok (.aload_n 2, 1) := by decide +kernel
theorem d_La_law_763 : decode code 763 = .ok (.invokevirtual 113, 3) := by decide +kernel
theorem d_La_law_766 : decode code 766 = .ok (.lcmp, 1) := by decide +kernel
theorem d_La_law_767 : decode code 767 = .ok (.ifCond .eq 31, 3) := by decide +kernel
theorem d_La_law_770 : decode code 770 = .ok (.iconst 0, 1) := by decide +kernel
theorem d_La_law_771 : decode code 771 = .ok (.ireturn, 1) := by decide +kernel
theorem d_La_law_772 : decode code 772 = .ok (.aload_n 1, 1) := by decide +kernel
theorem d_La_law_773 : decode code 773 = .ok (.invokevirtual 114, 3) := by decide +kernel
theorem d_La_law_776 : decode code 776 = .ok (.aload_n 2, 1) := by decide +kernel
theorem d_La_law_777 : decode code 777 = .ok (.invokevirtual 117, 3) := by decide +kernel
theorem d_La_law_780 : decode code 780 = .ok (.if_icmp .eq 18, 3) := by decide +kernel
theorem d_La_law_783 : decode code 783 = .ok (.iconst 0, 1) := by decide +kernel
theorem d_La_law_784 : decode code 784 = .ok (.ireturn, 1) := by decide +kernel
theorem d_La_law_785 : decode code 785 = .ok (.aload_n 1, 1) := by decide +kernel
theorem d_La_law_786 : decode code 786 = .ok (.invokevirtual 118, 3) := by decide +kernel
theorem d_La_law_789 : decode code 789 = .ok (.aload_n 2, 1) := by decide +kernel
theorem d_La_law_790 : decode code 790 = .ok (.invokevirtual 121, 3) := by decide +kernel
theorem d_La_law_793 : decode code 793 = .ok (.if_icmp .eq 5, 3) := by decide +kernel
theorem d_La_law_796 : decode code 796 = .ok (.iconst 0, 1) := by decide +kernel
theorem d_La_law_797 : decode code 797 = .ok (.ireturn, 1) := by decide +kernel
theorem d_La_law_798 : decode code 798 = .ok (.iinc 4 4, 3) := by decide +kernel
theorem d_La_law_801 : decode code 801 = .ok (.goto (-778), 3) := by decide +kernel
theorem d_La_law_804 : decode code 804 = .ok (.iconst 1, 1) := by decide +kernel
theorem d_La_law_805 : decode code 805 = .ok (.ireturn, 1) := by decide +kernel
theorem d_Ob_init_0 : decode b_Ob_init 0 = .ok (.return_, 1) := by decide +kernel
theorem d_Ar_fill_0 : decode b_Ar_fill 0 = .ok (.iconst 0, 1) := by decide +kernel
theorem d_Ar_fill_1 : decode b_Ar_fill 1 = .ok (.istore_n 2, 1) := by decide +kernel
theorem d_Ar_fill_2 : decode b_Ar_fill 2 = .ok (.aload_n 0, 1) := by decide +kernel
theorem d_Ar_fill_3 : decode b_Ar_fill 3 = .ok (.arraylength, 1) := by decide +kernel
theorem d_Ar_fill_4 : decode b_Ar_fill 4 = .ok (.istore_n 3, 1) := by decide +kernel
theorem d_Ar_fill_5 : decode b_Ar_fill 5 = .ok (.iload_n 2, 1) := by decide +kernel
theorem d_Ar_fill_6 : decode b_Ar_fill 6 = .ok (.iload_n 3, 1) := by decide +kernel
theorem d_Ar_fill_7 : decode b_Ar_fill 7 = .ok (.if_icmp .ge 13, 3) := by decide +kernel
theorem d_Ar_fill_10 : decode b_Ar_fill 10 = .ok (.aload_n 0, 1) := by decide +kernel
theorem d_Ar_fill_11 : decode b_Ar_fill 11 = .ok (.iload_n 2, 1) := by decide +kernel
theorem d_Ar_fill_12 : decode b_Ar_fill 12 = .ok (.iload_n 1, 1) := by decide +kernel
theorem d_Ar_fill_13 : decode b_Ar_fill 13 = .ok (.iastore, 1) := by decide +kernel
theorem d_Ar_fill_14 : decode b_Ar_fill 14 = .ok (.iinc 2 1, 3) := by decide +kernel
theorem d_Ar_fill_17 : decode b_Ar_fill 17 = .ok (.goto (-12), 3) := by decide +kernel
theorem d_Ar_fill_20 : decode b_Ar_fill 20 = .ok (.return_, 1) := by decide +kernel
