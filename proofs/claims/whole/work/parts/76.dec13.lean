theorem d_law_1121 : decode code 1121 = .ok (.aload_n 1, 1) := by decide +kernel
theorem d_law_1122 : decode code 1122 = .ok (.aload_n 0, 1) := by decide +kernel
theorem d_law_1123 : decode code 1123 = .ok (.iload 4, 2) := by decide +kernel
theorem d_law_1125 : decode code 1125 = .ok (.iconst 1, 1) := by decide +kernel
theorem d_law_1126 : decode code 1126 = .ok (.iadd, 1) := by decide +kernel
theorem d_law_1127 : decode code 1127 = .ok (.iaload, 1) := by decide +kernel
theorem d_law_1128 : decode code 1128 = .ok (.aload_n 0, 1) := by decide +kernel
theorem d_law_1129 : decode code 1129 = .ok (.iload 4, 2) := by decide +kernel
theorem d_law_1131 : decode code 1131 = .ok (.iconst 2, 1) := by decide +kernel
theorem d_law_1132 : decode code 1132 = .ok (.iadd, 1) := by decide +kernel
theorem d_law_1133 : decode code 1133 = .ok (.iaload, 1) := by decide +kernel
theorem d_law_1134 : decode code 1134 = .ok (.aload_n 3, 1) := by decide +kernel
theorem d_law_1135 : decode code 1135 = .ok (.invokestatic 137, 3) := by decide +kernel
theorem d_law_1138 : decode code 1138 = .ok (.istore 5, 2) := by decide +kernel
theorem d_law_1140 : decode code 1140 = .ok (.aload_n 2, 1) := by decide +kernel
theorem d_law_1141 : decode code 1141 = .ok (.aload_n 0, 1) := by decide +kernel
theorem d_law_1142 : decode code 1142 = .ok (.iload 4, 2) := by decide +kernel
theorem d_law_1144 : decode code 1144 = .ok (.iconst 1, 1) := by decide +kernel
theorem d_law_1145 : decode code 1145 = .ok (.iadd, 1) := by decide +kernel
theorem d_law_1146 : decode code 1146 = .ok (.iaload, 1) := by decide +kernel
theorem d_law_1147 : decode code 1147 = .ok (.aload_n 0, 1) := by decide +kernel
theorem d_law_1148 : decode code 1148 = .ok (.iload 4, 2) := by decide +kernel
theorem d_law_1150 : decode code 1150 = .ok (.iconst 2, 1) := by decide +kernel
theorem d_law_1151 : decode code 1151 = .ok (.iadd, 1) := by decide +kernel
theorem d_law_1152 : decode code 1152 = .ok (.iaload, 1) := by decide +kernel
theorem d_law_1153 : decode code 1153 = .ok (.invokevirtual 139, 3) := by decide +kernel
theorem d_law_1156 : decode code 1156 = .ok (.istore 6, 2) := by decide +kernel
theorem d_law_1158 : decode code 1158 = .ok (.aload_n 2, 1) := by decide +kernel
theorem d_law_1159 : decode code 1159 = .ok (.invokevirtual 97, 3) := by decide +kernel
theorem d_law_1162 : decode code 1162 = .ok (.iload 5, 2) := by decide +kernel
theorem d_law_1164 : decode code 1164 = .ok (.if_icmp .eq 5, 3) := by decide +kernel
theorem d_law_1169 : decode code 1169 = .ok (.iload 5, 2) := by decide +kernel
theorem d_law_1171 : decode code 1171 = .ok (.ifCond .ne 15, 3) := by decide +kernel
theorem d_law_1174 : decode code 1174 = .ok (.aload_n 3, 1) := by decide +kernel
theorem d_law_1175 : decode code 1175 = .ok (.iconst 0, 1) := by decide +kernel
theorem d_law_1176 : decode code 1176 = .ok (.laload, 1) := by decide +kernel
theorem d_law_1177 : decode code 1177 = .ok (.iload 6, 2) := by decide +kernel
theorem d_law_1179 : decode code 1179 = .ok (.i2l, 1) := by decide +kernel
theorem d_law_1180 : decode code 1180 = .ok (.lcmp, 1) := by decide +kernel
theorem d_law_1181 : decode code 1181 = .ok (.ifCond .eq 5, 3) := by decide +kernel
theorem d_law_1186 : decode code 1186 = .ok (.goto 451, 3) := by decide +kernel
theorem d_law_1189 : decode code 1189 = .ok (.aload_n 1, 1) := by decide +kernel
theorem d_law_1190 : decode code 1190 = .ok (.aload_n 0, 1) := by decide +kernel
theorem d_law_1191 : decode code 1191 = .ok (.iload 4, 2) := by decide +kernel
theorem d_law_1193 : decode code 1193 = .ok (.iconst 1, 1) := by decide +kernel
theorem d_law_1194 : decode code 1194 = .ok (.iadd, 1) := by decide +kernel
theorem d_law_1195 : decode code 1195 = .ok (.iaload, 1) := by decide +kernel
theorem d_law_1196 : decode code 1196 = .ok (.aload_n 0, 1) := by decide +kernel
theorem d_law_1197 : decode code 1197 = .ok (.iload 4, 2) := by decide +kernel
theorem d_law_1199 : decode code 1199 = .ok (.iconst 2, 1) := by decide +kernel
