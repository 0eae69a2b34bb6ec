theorem d_law_1283 : decode code 1283 = .ok (.invokevirtual 97, 3) := by decide +kernel
theorem d_law_1286 : decode code 1286 = .ok (.iload 5, 2) := by decide +kernel
theorem d_law_1288 : decode code 1288 = .ok (.if_icmp .eq 5, 3) := by decide +kernel
theorem d_law_1293 : decode code 1293 = .ok (.iload 5, 2) := by decide +kernel
theorem d_law_1295 : decode code 1295 = .ok (.ifCond .ne 15, 3) := by decide +kernel
theorem d_law_1298 : decode code 1298 = .ok (.aload_n 3, 1) := by decide +kernel
theorem d_law_1299 : decode code 1299 = .ok (.iconst 0, 1) := by decide +kernel
theorem d_law_1300 : decode code 1300 = .ok (.laload, 1) := by decide +kernel
theorem d_law_1301 : decode code 1301 = .ok (.iload 6, 2) := by decide +kernel
theorem d_law_1303 : decode code 1303 = .ok (.i2l, 1) := by decide +kernel
theorem d_law_1304 : decode code 1304 = .ok (.lcmp, 1) := by decide +kernel
theorem d_law_1305 : decode code 1305 = .ok (.ifCond .eq 5, 3) := by decide +kernel
theorem d_law_1310 : decode code 1310 = .ok (.goto 327, 3) := by decide +kernel
theorem d_law_1313 : decode code 1313 = .ok (.aload_n 1, 1) := by decide +kernel
theorem d_law_1314 : decode code 1314 = .ok (.aload_n 0, 1) := by decide +kernel
theorem d_law_1315 : decode code 1315 = .ok (.iload 4, 2) := by decide +kernel
theorem d_law_1317 : decode code 1317 = .ok (.iconst 1, 1) := by decide +kernel
theorem d_law_1318 : decode code 1318 = .ok (.iadd, 1) := by decide +kernel
theorem d_law_1319 : decode code 1319 = .ok (.iaload, 1) := by decide +kernel
theorem d_law_1320 : decode code 1320 = .ok (.aload_n 0, 1) := by decide +kernel
theorem d_law_1321 : decode code 1321 = .ok (.iload 4, 2) := by decide +kernel
theorem d_law_1323 : decode code 1323 = .ok (.iconst 2, 1) := by decide +kernel
theorem d_law_1324 : decode code 1324 = .ok (.iadd, 1) := by decide +kernel
theorem d_law_1325 : decode code 1325 = .ok (.iaload, 1) := by decide +kernel
theorem d_law_1326 : decode code 1326 = .ok (.aload_n 3, 1) := by decide +kernel
theorem d_law_1327 : decode code 1327 = .ok (.invokestatic 147, 3) := by decide +kernel
theorem d_law_1330 : decode code 1330 = .ok (.istore 5, 2) := by decide +kernel
theorem d_law_1332 : decode code 1332 = .ok (.aload_n 2, 1) := by decide +kernel
theorem d_law_1333 : decode code 1333 = .ok (.aload_n 0, 1) := by decide +kernel
theorem d_law_1334 : decode code 1334 = .ok (.iload 4, 2) := by decide +kernel
theorem d_law_1336 : decode code 1336 = .ok (.iconst 1, 1) := by decide +kernel
theorem d_law_1337 : decode code 1337 = .ok (.iadd, 1) := by decide +kernel
theorem d_law_1338 : decode code 1338 = .ok (.iaload, 1) := by decide +kernel
theorem d_law_1339 : decode code 1339 = .ok (.aload_n 0, 1) := by decide +kernel
theorem d_law_1340 : decode code 1340 = .ok (.iload 4, 2) := by decide +kernel
theorem d_law_1342 : decode code 1342 = .ok (.iconst 2, 1) := by decide +kernel
theorem d_law_1343 : decode code 1343 = .ok (.iadd, 1) := by decide +kernel
theorem d_law_1344 : decode code 1344 = .ok (.iaload, 1) := by decide +kernel
theorem d_law_1345 : decode code 1345 = .ok (.invokevirtual 149, 3) := by decide +kernel
theorem d_law_1348 : decode code 1348 = .ok (.istore 6, 2) := by decide +kernel
theorem d_law_1350 : decode code 1350 = .ok (.aload_n 2, 1) := by decide +kernel
theorem d_law_1351 : decode code 1351 = .ok (.invokevirtual 97, 3) := by decide +kernel
theorem d_law_1354 : decode code 1354 = .ok (.iload 5, 2) := by decide +kernel
theorem d_law_1356 : decode code 1356 = .ok (.if_icmp .eq 5, 3) := by decide +kernel
theorem d_law_1361 : decode code 1361 = .ok (.iload 5, 2) := by decide +kernel
theorem d_law_1363 : decode code 1363 = .ok (.ifCond .ne 15, 3) := by decide +kernel
theorem d_law_1366 : decode code 1366 = .ok (.aload_n 3, 1) := by decide +kernel
theorem d_law_1367 : decode code 1367 = .ok (.iconst 0, 1) := by decide +kernel
theorem d_law_1368 : decode code 1368 = .ok (.laload, 1) := by decide +kernel
theorem d_law_1369 : decode code 1369 = .ok (.iload 6, 2) := by decide +kernel
