theorem d_law_887 : decode code 887 = .ok (.iadd, 1) := by decide +kernel
theorem d_law_888 : decode code 888 = .ok (.iaload, 1) := by decide +kernel
theorem d_law_889 : decode code 889 = .ok (.aload_n 0, 1) := by decide +kernel
theorem d_law_890 : decode code 890 = .ok (.iload 4, 2) := by decide +kernel
theorem d_law_892 : decode code 892 = .ok (.iconst 3, 1) := by decide +kernel
theorem d_law_893 : decode code 893 = .ok (.iadd, 1) := by decide +kernel
theorem d_law_894 : decode code 894 = .ok (.iaload, 1) := by decide +kernel
theorem d_law_895 : decode code 895 = .ok (.aload_n 0, 1) := by decide +kernel
theorem d_law_896 : decode code 896 = .ok (.iload 4, 2) := by decide +kernel
theorem d_law_898 : decode code 898 = .ok (.iconst 4, 1) := by decide +kernel
theorem d_law_899 : decode code 899 = .ok (.iadd, 1) := by decide +kernel
theorem d_law_900 : decode code 900 = .ok (.iaload, 1) := by decide +kernel
theorem d_law_901 : decode code 901 = .ok (.invokevirtual 130, 3) := by decide +kernel
theorem d_law_904 : decode code 904 = .ok (.istore 6, 2) := by decide +kernel
theorem d_law_906 : decode code 906 = .ok (.aload_n 2, 1) := by decide +kernel
theorem d_law_907 : decode code 907 = .ok (.invokevirtual 97, 3) := by decide +kernel
theorem d_law_910 : decode code 910 = .ok (.iload 5, 2) := by decide +kernel
theorem d_law_912 : decode code 912 = .ok (.if_icmp .eq 5, 3) := by decide +kernel
theorem d_law_917 : decode code 917 = .ok (.iload 5, 2) := by decide +kernel
theorem d_law_919 : decode code 919 = .ok (.ifCond .ne 15, 3) := by decide +kernel
theorem d_law_922 : decode code 922 = .ok (.aload_n 3, 1) := by decide +kernel
theorem d_law_923 : decode code 923 = .ok (.iconst 0, 1) := by decide +kernel
theorem d_law_924 : decode code 924 = .ok (.laload, 1) := by decide +kernel
theorem d_law_925 : decode code 925 = .ok (.iload 6, 2) := by decide +kernel
theorem d_law_927 : decode code 927 = .ok (.i2l, 1) := by decide +kernel
theorem d_law_928 : decode code 928 = .ok (.lcmp, 1) := by decide +kernel
theorem d_law_929 : decode code 929 = .ok (.ifCond .eq 5, 3) := by decide +kernel
theorem d_law_934 : decode code 934 = .ok (.goto 703, 3) := by decide +kernel
theorem d_law_937 : decode code 937 = .ok (.aload_n 1, 1) := by decide +kernel
theorem d_law_938 : decode code 938 = .ok (.aload_n 0, 1) := by decide +kernel
theorem d_law_939 : decode code 939 = .ok (.iload 4, 2) := by decide +kernel
theorem d_law_941 : decode code 941 = .ok (.iconst 1, 1) := by decide +kernel
theorem d_law_942 : decode code 942 = .ok (.iadd, 1) := by decide +kernel
theorem d_law_943 : decode code 943 = .ok (.iaload, 1) := by decide +kernel
theorem d_law_944 : decode code 944 = .ok (.aload_n 0, 1) := by decide +kernel
theorem d_law_945 : decode code 945 = .ok (.iload 4, 2) := by decide +kernel
theorem d_law_947 : decode code 947 = .ok (.iconst 2, 1) := by decide +kernel
theorem d_law_948 : decode code 948 = .ok (.iadd, 1) := by decide +kernel
theorem d_law_949 : decode code 949 = .ok (.iaload, 1) := by decide +kernel
theorem d_law_950 : decode code 950 = .ok (.aload_n 0, 1) := by decide +kernel
theorem d_law_951 : decode code 951 = .ok (.iload 4, 2) := by decide +kernel
theorem d_law_953 : decode code 953 = .ok (.iconst 3, 1) := by decide +kernel
theorem d_law_954 : decode code 954 = .ok (.iadd, 1) := by decide +kernel
theorem d_law_955 : decode code 955 = .ok (.iaload, 1) := by decide +kernel
theorem d_law_956 : decode code 956 = .ok (.aload_n 0, 1) := by decide +kernel
theorem d_law_957 : decode code 957 = .ok (.iload 4, 2) := by decide +kernel
theorem d_law_959 : decode code 959 = .ok (.iconst 4, 1) := by decide +kernel
theorem d_law_960 : decode code 960 = .ok (.iadd, 1) := by decide +kernel
theorem d_law_961 : decode code 961 = .ok (.iaload, 1) := by decide +kernel
theorem d_law_962 : decode code 962 = .ok (.aload_n 3, 1) := by decide +kernel
