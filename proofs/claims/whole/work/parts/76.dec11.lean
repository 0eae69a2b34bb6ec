theorem d_law_963 : decode code 963 = .ok (.invokestatic 131, 3) := by decide +kernel
theorem d_law_966 : decode code 966 = .ok (.istore 5, 2) := by decide +kernel
theorem d_law_968 : decode code 968 = .ok (.aload_n 2, 1) := by decide +kernel
theorem d_law_969 : decode code 969 = .ok (.aload_n 0, 1) := by decide +kernel
theorem d_law_970 : decode code 970 = .ok (.iload 4, 2) := by decide +kernel
theorem d_law_972 : decode code 972 = .ok (.iconst 1, 1) := by decide +kernel
theorem d_law_973 : decode code 973 = .ok (.iadd, 1) := by decide +kernel
theorem d_law_974 : decode code 974 = .ok (.iaload, 1) := by decide +kernel
theorem d_law_975 : decode code 975 = .ok (.aload_n 0, 1) := by decide +kernel
theorem d_law_976 : decode code 976 = .ok (.iload 4, 2) := by decide +kernel
theorem d_law_978 : decode code 978 = .ok (.iconst 2, 1) := by decide +kernel
theorem d_law_979 : decode code 979 = .ok (.iadd, 1) := by decide +kernel
theorem d_law_980 : decode code 980 = .ok (.iaload, 1) := by decide +kernel
theorem d_law_981 : decode code 981 = .ok (.aload_n 0, 1) := by decide +kernel
theorem d_law_982 : decode code 982 = .ok (.iload 4, 2) := by decide +kernel
theorem d_law_984 : decode code 984 = .ok (.iconst 3, 1) := by decide +kernel
theorem d_law_985 : decode code 985 = .ok (.iadd, 1) := by decide +kernel
theorem d_law_986 : decode code 986 = .ok (.iaload, 1) := by decide +kernel
theorem d_law_987 : decode code 987 = .ok (.aload_n 0, 1) := by decide +kernel
theorem d_law_988 : decode code 988 = .ok (.iload 4, 2) := by decide +kernel
theorem d_law_990 : decode code 990 = .ok (.iconst 4, 1) := by decide +kernel
theorem d_law_991 : decode code 991 = .ok (.iadd, 1) := by decide +kernel
theorem d_law_992 : decode code 992 = .ok (.iaload, 1) := by decide +kernel
theorem d_law_993 : decode code 993 = .ok (.invokevirtual 133, 3) := by decide +kernel
theorem d_law_996 : decode code 996 = .ok (.istore 6, 2) := by decide +kernel
theorem d_law_998 : decode code 998 = .ok (.aload_n 2, 1) := by decide +kernel
theorem d_law_999 : decode code 999 = .ok (.invokevirtual 97, 3) := by decide +kernel
theorem d_law_1002 : decode code 1002 = .ok (.iload 5, 2) := by decide +kernel
theorem d_law_1004 : decode code 1004 = .ok (.if_icmp .eq 5, 3) := by decide +kernel
theorem d_law_1009 : decode code 1009 = .ok (.iload 5, 2) := by decide +kernel
theorem d_law_1011 : decode code 1011 = .ok (.ifCond .ne 15, 3) := by decide +kernel
theorem d_law_1014 : decode code 1014 = .ok (.aload_n 3, 1) := by decide +kernel
theorem d_law_1015 : decode code 1015 = .ok (.iconst 0, 1) := by decide +kernel
theorem d_law_1016 : decode code 1016 = .ok (.laload, 1) := by decide +kernel
theorem d_law_1017 : decode code 1017 = .ok (.iload 6, 2) := by decide +kernel
theorem d_law_1019 : decode code 1019 = .ok (.i2l, 1) := by decide +kernel
theorem d_law_1020 : decode code 1020 = .ok (.lcmp, 1) := by decide +kernel
theorem d_law_1021 : decode code 1021 = .ok (.ifCond .eq 5, 3) := by decide +kernel
theorem d_law_1026 : decode code 1026 = .ok (.goto 611, 3) := by decide +kernel
theorem d_law_1029 : decode code 1029 = .ok (.aload_n 1, 1) := by decide +kernel
theorem d_law_1030 : decode code 1030 = .ok (.aload_n 0, 1) := by decide +kernel
theorem d_law_1031 : decode code 1031 = .ok (.iload 4, 2) := by decide +kernel
theorem d_law_1033 : decode code 1033 = .ok (.iconst 1, 1) := by decide +kernel
theorem d_law_1034 : decode code 1034 = .ok (.iadd, 1) := by decide +kernel
theorem d_law_1035 : decode code 1035 = .ok (.iaload, 1) := by decide +kernel
theorem d_law_1036 : decode code 1036 = .ok (.aload_n 0, 1) := by decide +kernel
theorem d_law_1037 : decode code 1037 = .ok (.iload 4, 2) := by decide +kernel
theorem d_law_1039 : decode code 1039 = .ok (.iconst 2, 1) := by decide +kernel
theorem d_law_1040 : decode code 1040 = .ok (.iadd, 1) := by decide +kernel
theorem d_law_1041 : decode code 1041 = .ok (.iaload, 1) := by decide +kernel
