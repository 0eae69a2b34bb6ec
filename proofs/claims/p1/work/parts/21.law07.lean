theorem d_law_845 : decode code 845 = .ok (.aload_n 1, 1) := by decide +kernel
theorem d_law_846 : decode code 846 = .ok (.aload_n 0, 1) := by decide +kernel
theorem d_law_847 : decode code 847 = .ok (.iload 4, 2) := by decide +kernel
theorem d_law_849 : decode code 849 = .ok (.iconst 1, 1) := by decide +kernel
theorem d_law_850 : decode code 850 = .ok (.iadd, 1) := by decide +kernel
theorem d_law_851 : decode code 851 = .ok (.iaload, 1) := by decide +kernel
theorem d_law_852 : decode code 852 = .ok (.aload_n 0, 1) := by decide +kernel
theorem d_law_853 : decode code 853 = .ok (.iload 4, 2) := by decide +kernel
theorem d_law_855 : decode code 855 = .ok (.iconst 2, 1) := by decide +kernel
theorem d_law_856 : decode code 856 = .ok (.iadd, 1) := by decide +kernel
theorem d_law_857 : decode code 857 = .ok (.iaload, 1) := by decide +kernel
theorem d_law_858 : decode code 858 = .ok (.aload_n 0, 1) := by decide +kernel
theorem d_law_859 : decode code 859 = .ok (.iload 4, 2) := by decide +kernel
theorem d_law_861 : decode code 861 = .ok (.iconst 3, 1) := by decide +kernel
theorem d_law_862 : decode code 862 = .ok (.iadd, 1) := by decide +kernel
theorem d_law_863 : decode code 863 = .ok (.iaload, 1) := by decide +kernel
theorem d_law_864 : decode code 864 = .ok (.aload_n 0, 1) := by decide +kernel
theorem d_law_865 : decode code 865 = .ok (.iload 4, 2) := by decide +kernel
theorem d_law_867 : decode code 867 = .ok (.iconst 4, 1) := by decide +kernel
theorem d_law_868 : decode code 868 = .ok (.iadd, 1) := by decide +kernel
theorem d_law_869 : decode code 869 = .ok (.iaload, 1) := by decide +kernel
theorem d_law_870 : decode code 870 = .ok (.aload_n 3, 1) := by decide +kernel
theorem d_law_871 : decode code 871 = .ok (.invokestatic 128, 3) := by decide +kernel
theorem d_law_874 : decode code 874 = .ok (.istore 5, 2) := by decide +kernel
theorem d_law_876 : decode code 876 = .ok (.aload_n 2, 1) := by decide +kernel
theorem d_law_877 : decode code 877 = .ok (.aload_n 0, 1) := by decide +kernel
theorem d_law_878 : decode code 878 = .ok (.iload 4, 2) := by decide +kernel
theorem d_law_880 : decode code 880 = .ok (.iconst 1, 1) := by decide +kernel
theorem d_law_881 : decode code 881 = .ok (.iadd, 1) := by decide +kernel
theorem d_law_882 : decode code 882 = .ok (.iaload, 1) := by decide +kernel
theorem d_law_883 : decode code 883 = .ok (.aload_n 0, 1) := by decide +kernel
theorem d_law_884 : decode code 884 = .ok (.iload 4, 2) := by decide +kernel
theorem d_law_886 : decode code 886 = .ok (.iconst 2, 1) := by decide +kernel
theorem d_law_887 : decode code 887 = .ok (.iadd, 1) := by decide +kernel
theorem d_law_888 : decode code 888 = .ok (.iaload, 1) := by decide +kernel
theorem d_law_889 : decode code 889 = .ok (.aload_n 0, 1) := by decide +kernel
theorem d_law_890 : decode code 890 = .ok (.iload 4, 2) := by decide +kernel
theorem d_law_892 : decode code 892 = .ok (.iconst 3, 1) := by decide +kernel
theorem d_law_893 : decode code 893 = .ok (.iadd, 1) := by decide +kernel
theorem d_law_894 : decode code 894 = .ok (.iaload, 1) := by decide +kernel
theorem d_law_895 : decode code 895 = .ok (.aload_n 0, 1) := by decide +kernel
theorem d_law_896 : decode code 896 = .ok (.iload 4, 2) := by decide +kernel
theorem d_law_898 : decode code 898 = .ok (.iconst 4, 1) := by decide +kernel
theorem d_law_899 : decode code 899 = .ok (.iadd, 1) := by decide +kernel
theorem d_law_900 : decode code 900 = .ok (.iaload, 1) := by decide +kernel
theorem d_law_901 : decode code 901 = .ok (.invokevirtual 130, 3) := by decide +kernel
theorem d_law_904 : decode code 904 = .ok (.istore 6, 2) := by decide +kernel
theorem d_law_906 : decode code 906 = .ok (.aload_n 2, 1) := by decide +kernel
theorem d_law_907 : decode code 907 = .ok (.invokevirtual 97, 3) := by decide +kernel
theorem d_law_910 : decode code 910 = .ok (.iload 5, 2) := by decide +kernel
theorem d_law_912 : decode code 912 = .ok (.if_icmp .eq 5, 3) := by decide +kernel
theorem d_law_917 : decode code 917 = .ok (.iload 5, 2) := by decide +kernel
theorem d_law_919 : decode code 919 = .ok (.ifCond .ne 15, 3) := by decide +kernel
theorem d_law_934 : decode code 934 = .ok (.goto 703, 3) := by decide +kernel
theorem d_law_937 : decode code 937 = .ok (.aload_n 1, 1) := by decide +kernel
theorem d_law_938 : decode code 938 = .ok (.aload_n 0, 1) := by decide +kernel
theorem d_law_939 : decode code 939 = .ok (.iload 4, 2) := by decide +kernel
theorem d_law_941 : decode code 941 = .ok (.iconst 1, 1) := by decide +kernel
theorem d_law_942 : decode code 942 = .ok (.iadd, 1) := by decide +kernel
theorem d_law_943 : decode code 943 = .ok (.iaload, 1) := by decide +kernel
