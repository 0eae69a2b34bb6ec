theorem d_law_729 : decode code 729 = .ok (.invokevirtual 124, 3) := by decide +kernel
theorem d_law_732 : decode code 732 = .ok (.istore 6, 2) := by decide +kernel
theorem d_law_734 : decode code 734 = .ok (.aload_n 2, 1) := by decide +kernel
theorem d_law_735 : decode code 735 = .ok (.invokevirtual 97, 3) := by decide +kernel
theorem d_law_738 : decode code 738 = .ok (.iload 5, 2) := by decide +kernel
theorem d_law_740 : decode code 740 = .ok (.if_icmp .eq 5, 3) := by decide +kernel
theorem d_law_745 : decode code 745 = .ok (.iload 5, 2) := by decide +kernel
theorem d_law_747 : decode code 747 = .ok (.ifCond .ne 15, 3) := by decide +kernel
theorem d_law_750 : decode code 750 = .ok (.aload_n 3, 1) := by decide +kernel
theorem d_law_751 : decode code 751 = .ok (.iconst 0, 1) := by decide +kernel
theorem d_law_752 : decode code 752 = .ok (.laload, 1) := by decide +kernel
theorem d_law_753 : decode code 753 = .ok (.iload 6, 2) := by decide +kernel
theorem d_law_755 : decode code 755 = .ok (.i2l, 1) := by decide +kernel
theorem d_law_756 : decode code 756 = .ok (.lcmp, 1) := by decide +kernel
theorem d_law_757 : decode code 757 = .ok (.ifCond .eq 5, 3) := by decide +kernel
theorem d_law_762 : decode code 762 = .ok (.goto 875, 3) := by decide +kernel
theorem d_law_765 : decode code 765 = .ok (.aload_n 1, 1) := by decide +kernel
theorem d_law_766 : decode code 766 = .ok (.aload_n 0, 1) := by decide +kernel
theorem d_law_767 : decode code 767 = .ok (.iload 4, 2) := by decide +kernel
theorem d_law_769 : decode code 769 = .ok (.iconst 1, 1) := by decide +kernel
theorem d_law_770 : decode code 770 = .ok (.iadd, 1) := by decide +kernel
theorem d_law_771 : decode code 771 = .ok (.iaload, 1) := by decide +kernel
theorem d_law_772 : decode code 772 = .ok (.aload_n 0, 1) := by decide +kernel
theorem d_law_773 : decode code 773 = .ok (.iload 4, 2) := by decide +kernel
theorem d_law_775 : decode code 775 = .ok (.iconst 2, 1) := by decide +kernel
theorem d_law_776 : decode code 776 = .ok (.iadd, 1) := by decide +kernel
theorem d_law_777 : decode code 777 = .ok (.iaload, 1) := by decide +kernel
theorem d_law_778 : decode code 778 = .ok (.aload_n 0, 1) := by decide +kernel
theorem d_law_779 : decode code 779 = .ok (.iload 4, 2) := by decide +kernel
theorem d_law_781 : decode code 781 = .ok (.iconst 3, 1) := by decide +kernel
theorem d_law_782 : decode code 782 = .ok (.iadd, 1) := by decide +kernel
theorem d_law_783 : decode code 783 = .ok (.iaload, 1) := by decide +kernel
theorem d_law_784 : decode code 784 = .ok (.aload_n 3, 1) := by decide +kernel
theorem d_law_785 : decode code 785 = .ok (.invokestatic 125, 3) := by decide +kernel
theorem d_law_788 : decode code 788 = .ok (.istore 5, 2) := by decide +kernel
theorem d_law_790 : decode code 790 = .ok (.aload_n 2, 1) := by decide +kernel
theorem d_law_791 : decode code 791 = .ok (.aload_n 0, 1) := by decide +kernel
theorem d_law_792 : decode code 792 = .ok (.iload 4, 2) := by decide +kernel
theorem d_law_794 : decode code 794 = .ok (.iconst 1, 1) := by decide +kernel
theorem d_law_795 : decode code 795 = .ok (.iadd, 1) := by decide +kernel
theorem d_law_796 : decode code 796 = .ok (.iaload, 1) := by decide +kernel
theorem d_law_797 : decode code 797 = .ok (.aload_n 0, 1) := by decide +kernel
theorem d_law_798 : decode code 798 = .ok (.iload 4, 2) := by decide +kernel
theorem d_law_800 : decode code 800 = .ok (.iconst 2, 1) := by decide +kernel
theorem d_law_801 : decode code 801 = .ok (.iadd, 1) := by decide +kernel
theorem d_law_802 : decode code 802 = .ok (.iaload, 1) := by decide +kernel
theorem d_law_803 : decode code 803 = .ok (.aload_n 0, 1) := by decide +kernel
theorem d_law_804 : decode code 804 = .ok (.iload 4, 2) := by decide +kernel
theorem d_law_806 : decode code 806 = .ok (.iconst 3, 1) := by decide +kernel
theorem d_law_807 : decode code 807 = .ok (.iadd, 1) := by decide +kernel
