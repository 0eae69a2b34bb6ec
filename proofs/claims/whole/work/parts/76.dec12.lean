theorem d_law_1042 : decode code 1042 = .ok (.aload_n 0, 1) := by decide +kernel
theorem d_law_1043 : decode code 1043 = .ok (.iload 4, 2) := by decide +kernel
theorem d_law_1045 : decode code 1045 = .ok (.iconst 3, 1) := by decide +kernel
theorem d_law_1046 : decode code 1046 = .ok (.iadd, 1) := by decide +kernel
theorem d_law_1047 : decode code 1047 = .ok (.iaload, 1) := by decide +kernel
theorem d_law_1048 : decode code 1048 = .ok (.aload_n 0, 1) := by decide +kernel
theorem d_law_1049 : decode code 1049 = .ok (.iload 4, 2) := by decide +kernel
theorem d_law_1051 : decode code 1051 = .ok (.iconst 4, 1) := by decide +kernel
theorem d_law_1052 : decode code 1052 = .ok (.iadd, 1) := by decide +kernel
theorem d_law_1053 : decode code 1053 = .ok (.iaload, 1) := by decide +kernel
theorem d_law_1054 : decode code 1054 = .ok (.aload_n 3, 1) := by decide +kernel
theorem d_law_1055 : decode code 1055 = .ok (.invokestatic 134, 3) := by decide +kernel
theorem d_law_1058 : decode code 1058 = .ok (.istore 5, 2) := by decide +kernel
theorem d_law_1060 : decode code 1060 = .ok (.aload_n 2, 1) := by decide +kernel
theorem d_law_1061 : decode code 1061 = .ok (.aload_n 0, 1) := by decide +kernel
theorem d_law_1062 : decode code 1062 = .ok (.iload 4, 2) := by decide +kernel
theorem d_law_1064 : decode code 1064 = .ok (.iconst 1, 1) := by decide +kernel
theorem d_law_1065 : decode code 1065 = .ok (.iadd, 1) := by decide +kernel
theorem d_law_1066 : decode code 1066 = .ok (.iaload, 1) := by decide +kernel
theorem d_law_1067 : decode code 1067 = .ok (.aload_n 0, 1) := by decide +kernel
theorem d_law_1068 : decode code 1068 = .ok (.iload 4, 2) := by decide +kernel
theorem d_law_1070 : decode code 1070 = .ok (.iconst 2, 1) := by decide +kernel
theorem d_law_1071 : decode code 1071 = .ok (.iadd, 1) := by decide +kernel
theorem d_law_1072 : decode code 1072 = .ok (.iaload, 1) := by decide +kernel
theorem d_law_1073 : decode code 1073 = .ok (.aload_n 0, 1) := by decide +kernel
theorem d_law_1074 : decode code 1074 = .ok (.iload 4, 2) := by decide +kernel
theorem d_law_1076 : decode code 1076 = .ok (.iconst 3, 1) := by decide +kernel
theorem d_law_1077 : decode code 1077 = .ok (.iadd, 1) := by decide +kernel
theorem d_law_1078 : decode code 1078 = .ok (.iaload, 1) := by decide +kernel
theorem d_law_1079 : decode code 1079 = .ok (.aload_n 0, 1) := by decide +kernel
theorem d_law_1080 : decode code 1080 = .ok (.iload 4, 2) := by decide +kernel
theorem d_law_1082 : decode code 1082 = .ok (.iconst 4, 1) := by decide +kernel
theorem d_law_1083 : decode code 1083 = .ok (.iadd, 1) := by decide +kernel
theorem d_law_1084 : decode code 1084 = .ok (.iaload, 1) := by decide +kernel
theorem d_law_1085 : decode code 1085 = .ok (.invokevirtual 136, 3) := by decide +kernel
theorem d_law_1088 : decode code 1088 = .ok (.istore 6, 2) := by decide +kernel
theorem d_law_1090 : decode code 1090 = .ok (.aload_n 2, 1) := by decide +kernel
theorem d_law_1091 : decode code 1091 = .ok (.invokevirtual 97, 3) := by decide +kernel
theorem d_law_1094 : decode code 1094 = .ok (.iload 5, 2) := by decide +kernel
theorem d_law_1096 : decode code 1096 = .ok (.if_icmp .eq 5, 3) := by decide +kernel
theorem d_law_1101 : decode code 1101 = .ok (.iload 5, 2) := by decide +kernel
theorem d_law_1103 : decode code 1103 = .ok (.ifCond .ne 15, 3) := by decide +kernel
theorem d_law_1106 : decode code 1106 = .ok (.aload_n 3, 1) := by decide +kernel
theorem d_law_1107 : decode code 1107 = .ok (.iconst 0, 1) := by decide +kernel
theorem d_law_1108 : decode code 1108 = .ok (.laload, 1) := by decide +kernel
theorem d_law_1109 : decode code 1109 = .ok (.iload 6, 2) := by decide +kernel
theorem d_law_1111 : decode code 1111 = .ok (.i2l, 1) := by decide +kernel
theorem d_law_1112 : decode code 1112 = .ok (.lcmp, 1) := by decide +kernel
theorem d_law_1113 : decode code 1113 = .ok (.ifCond .eq 5, 3) := by decide +kernel
theorem d_law_1118 : decode code 1118 = .ok (.goto 519, 3) := by decide +kernel
