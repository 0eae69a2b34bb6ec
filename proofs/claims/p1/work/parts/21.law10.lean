theorem d_law_1145 : decode code 1145 = .ok (.iadd, 1) := by decide +kernel
theorem d_law_1146 : decode code 1146 = .ok (.iaload, 1) := by decide +kernel
theorem d_law_1147 : decode code 1147 = .ok (.aload_n 0, 1) := by decide +kernel
theorem d_law_1148 : decode code 1148 = .ok (.iload 4, 2) := by decide +kernel
theorem d_law_1150 : decode code 1150 = .ok (.iconst 2, 1) := by decide +kernel
theorem d_law_1151 : decode code 1151 = .ok (.iadd, 1) := by decide +kernel
theorem d_law_1152 : decode code 1152 = .ok (.iaload, 1) := by decide +kernel
theorem d_law_1153 : decode code 1153 = .ok (.invokevirtual 139, 3) := by decide +kernel
theorem d_law_1156 : decode code 1156 = .ok (.istore 6, 2) := by decide +kernel
theorem d_law_1158 : decode code 1158 = .ok (.aload_n 2, 1) := by decide +kernel
theorem d_law_1159 : decode code 1159 = .ok (.invokevirtual 97, 3) := by decide +kernel
theorem d_law_1162 : decode code 1162 = .ok (.iload 5, 2) := by decide +kernel
theorem d_law_1164 : decode code 1164 = .ok (.if_icmp .eq 5, 3) := by decide +kernel
theorem d_law_1169 : decode code 1169 = .ok (.iload 5, 2) := by decide +kernel
theorem d_law_1171 : decode code 1171 = .ok (.ifCond .ne 15, 3) := by decide +kernel
theorem d_law_1186 : decode code 1186 = .ok (.goto 451, 3) := by decide +kernel
theorem d_law_1189 : decode code 1189 = .ok (.aload_n 1, 1) := by decide +kernel
theorem d_law_1190 : decode code 1190 = .ok (.aload_n 0, 1) := by decide +kernel
theorem d_law_1191 : decode code 1191 = .ok (.iload 4, 2) := by decide +kernel
theorem d_law_1193 : decode code 1193 = .ok (.iconst 1, 1) := by decide +kernel
theorem d_law_1194 : decode code 1194 = .ok (.iadd, 1) := by decide +kernel
theorem d_law_1195 : decode code 1195 = .ok (.iaload, 1) := by decide +kernel
theorem d_law_1196 : decode code 1196 = .ok (.aload_n 0, 1) := by decide +kernel
theorem d_law_1197 : decode code 1197 = .ok (.iload 4, 2) := by decide +kernel
theorem d_law_1199 : decode code 1199 = .ok (.iconst 2, 1) := by decide +kernel
theorem d_law_1200 : decode code 1200 = .ok (.iadd, 1) := by decide +kernel
theorem d_law_1201 : decode code 1201 = .ok (.iaload, 1) := by decide +kernel
theorem d_law_1202 : decode code 1202 = .ok (.aload_n 3, 1) := by decide +kernel
theorem d_law_1203 : decode code 1203 = .ok (.invokestatic 140, 3) := by decide +kernel
theorem d_law_1206 : decode code 1206 = .ok (.istore 5, 2) := by decide +kernel
theorem d_law_1208 : decode code 1208 = .ok (.aload_n 2, 1) := by decide +kernel
theorem d_law_1209 : decode code 1209 = .ok (.aload_n 0, 1) := by decide +kernel
theorem d_law_1210 : decode code 1210 = .ok (.iload 4, 2) := by decide +kernel
theorem d_law_1212 : decode code 1212 = .ok (.iconst 1, 1) := by decide +kernel
theorem d_law_1213 : decode code 1213 = .ok (.iadd, 1) := by decide +kernel
theorem d_law_1214 : decode code 1214 = .ok (.iaload, 1) := by decide +kernel
theorem d_law_1215 : decode code 1215 = .ok (.aload_n 0, 1) := by decide +kernel
theorem d_law_1216 : decode code 1216 = .ok (.iload 4, 2) := by decide +kernel
theorem d_law_1218 : decode code 1218 = .ok (.iconst 2, 1) := by decide +kernel
theorem d_law_1219 : decode code 1219 = .ok (.iadd, 1) := by decide +kernel
theorem d_law_1220 : decode code 1220 = .ok (.iaload, 1) := by decide +kernel
theorem d_law_1221 : decode code 1221 = .ok (.invokevirtual 142, 3) := by decide +kernel
theorem d_law_1224 : decode code 1224 = .ok (.istore 6, 2) := by decide +kernel
theorem d_law_1226 : decode code 1226 = .ok (.aload_n 2, 1) := by decide +kernel
theorem d_law_1227 : decode code 1227 = .ok (.invokevirtual 97, 3) := by decide +kernel
theorem d_law_1230 : decode code 1230 = .ok (.iload 5, 2) := by decide +kernel
theorem d_law_1232 : decode code 1232 = .ok (.if_icmp .eq 5, 3) := by decide +kernel
theorem d_law_1237 : decode code 1237 = .ok (.iload 5, 2) := by decide +kernel
theorem d_law_1239 : decode code 1239 = .ok (.ifCond .ne 15, 3) := by decide +kernel
theorem d_law_1254 : decode code 1254 = .ok (.goto 383, 3) := by decide +kernel
theorem d_law_1257 : decode code 1257 = .ok (.aload_n 1, 1) := by decide +kernel
theorem d_law_1258 : decode code 1258 = .ok (.aload_n 0, 1) := by decide +kernel
theorem d_law_1259 : decode code 1259 = .ok (.iload 4, 2) := by decide +kernel
theorem d_law_1261 : decode code 1261 = .ok (.iconst 1, 1) := by decide +kernel
theorem d_law_1262 : decode code 1262 = .ok (.iadd, 1) := by decide +kernel
theorem d_law_1263 : decode code 1263 = .ok (.iaload, 1) := by decide +kernel
theorem d_law_1264 : decode code 1264 = .ok (.aload_n 3, 1) := by decide +kernel
theorem d_law_1265 : decode code 1265 = .ok (.invokestatic 143, 3) := by decide +kernel
theorem d_law_1268 : decode code 1268 = .ok (.istore 5, 2) := by decide +kernel
theorem d_law_1270 : decode code 1270 = .ok (.aload_n 2, 1) := by decide +kernel
