theorem d_law_1200 : decode code 1200 = .ok (.iadd, 1) := by decide +kernel
theorem d_law_1201 : decode code 1201 = .ok (.iaload, 1) := by decide +kernel
theorem d_law_1202 : decode code 1202 = .ok (.aload_n 3, 1) := by decide +kernel
theorem d_law_1203 : decode code 1203 = .ok (.invokestatic 140, 3) := by decide +kernel
theorem d_law_1206 : decode code 1206 = .ok (.istore 5, 2) := by decide +kernel
theorem d_law_1208 : decode code 1208 = .ok (.aload_n 2, 1) := by decide +kernel
theorem d_law_1209 : decode code 1209 = .ok (.aload_n 0, 1) := by decide +kernel
theorem d_law_1210 : decode code 1210 = .ok (.iload 4, 2) := by decide +kernel
theorem d_law_1212 : decode code 1212 = .ok (.iconst 1, 1) := by decide +kernel
theorem d_law_1213 : decode code 1213 = .ok (.iadd, 1) := by decide +kernel
theorem d_law_1214 : decode code 1214 = .ok (.iaload, 1) := by decide +kernel
theorem d_law_1215 : decode code 1215 = .ok (.aload_n 0, 1) := by decide +kernel
theorem d_law_1216 : decode code 1216 = .ok (.iload 4, 2) := by decide +kernel
theorem d_law_1218 : decode code 1218 = .ok (.iconst 2, 1) := by decide +kernel
theorem d_law_1219 : decode code 1219 = .ok (.iadd, 1) := by decide +kernel
theorem d_law_1220 : decode code 1220 = .ok (.iaload, 1) := by decide +kernel
theorem d_law_1221 : decode code 1221 = .ok (.invokevirtual 142, 3) := by decide +kernel
theorem d_law_1224 : decode code 1224 = .ok (.istore 6, 2) := by decide +kernel
theorem d_law_1226 : decode code 1226 = .ok (.aload_n 2, 1) := by decide +kernel
theorem d_law_1227 : decode code 1227 = .ok (.invokevirtual 97, 3) := by decide +kernel
theorem d_law_1230 : decode code 1230 = .ok (.iload 5, 2) := by decide +kernel
theorem d_law_1232 : decode code 1232 = .ok (.if_icmp .eq 5, 3) := by decide +kernel
theorem d_law_1237 : decode code 1237 = .ok (.iload 5, 2) := by decide +kernel
theorem d_law_1239 : decode code 1239 = .ok (.ifCond .ne 15, 3) := by decide +kernel
theorem d_law_1242 : decode code 1242 = .ok (.aload_n 3, 1) := by decide +kernel
theorem d_law_1243 : decode code 1243 = .ok (.iconst 0, 1) := by decide +kernel
theorem d_law_1244 : decode code 1244 = .ok (.laload, 1) := by decide +kernel
theorem d_law_1245 : decode code 1245 = .ok (.iload 6, 2) := by decide +kernel
theorem d_law_1247 : decode code 1247 = .ok (.i2l, 1) := by decide +kernel
theorem d_law_1248 : decode code 1248 = .ok (.lcmp, 1) := by decide +kernel
theorem d_law_1249 : decode code 1249 = .ok (.ifCond .eq 5, 3) := by decide +kernel
theorem d_law_1254 : decode code 1254 = .ok (.goto 383, 3) := by decide +kernel
theorem d_law_1257 : decode code 1257 = .ok (.aload_n 1, 1) := by decide +kernel
theorem d_law_1258 : decode code 1258 = .ok (.aload_n 0, 1) := by decide +kernel
theorem d_law_1259 : decode code 1259 = .ok (.iload 4, 2) := by decide +kernel
theorem d_law_1261 : decode code 1261 = .ok (.iconst 1, 1) := by decide +kernel
theorem d_law_1262 : decode code 1262 = .ok (.iadd, 1) := by decide +kernel
theorem d_law_1263 : decode code 1263 = .ok (.iaload, 1) := by decide +kernel
theorem d_law_1264 : decode code 1264 = .ok (.aload_n 3, 1) := by decide +kernel
theorem d_law_1265 : decode code 1265 = .ok (.invokestatic 143, 3) := by decide +kernel
theorem d_law_1268 : decode code 1268 = .ok (.istore 5, 2) := by decide +kernel
theorem d_law_1270 : decode code 1270 = .ok (.aload_n 2, 1) := by decide +kernel
theorem d_law_1271 : decode code 1271 = .ok (.aload_n 0, 1) := by decide +kernel
theorem d_law_1272 : decode code 1272 = .ok (.iload 4, 2) := by decide +kernel
theorem d_law_1274 : decode code 1274 = .ok (.iconst 1, 1) := by decide +kernel
theorem d_law_1275 : decode code 1275 = .ok (.iadd, 1) := by decide +kernel
theorem d_law_1276 : decode code 1276 = .ok (.iaload, 1) := by decide +kernel
theorem d_law_1277 : decode code 1277 = .ok (.invokevirtual 146, 3) := by decide +kernel
theorem d_law_1280 : decode code 1280 = .ok (.istore 6, 2) := by decide +kernel
theorem d_law_1282 : decode code 1282 = .ok (.aload_n 2, 1) := by decide +kernel
