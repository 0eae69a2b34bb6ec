theorem d_law_1271 : decode code 1271 = .ok (.aload_n 0, 1) := by decide +kernel
theorem d_law_1272 : decode code 1272 = .ok (.iload 4, 2) := by decide +kernel
theorem d_law_1274 : decode code 1274 = .ok (.iconst 1, 1) := by decide +kernel
theorem d_law_1275 : decode code 1275 = .ok (.iadd, 1) := by decide +kernel
theorem d_law_1276 : decode code 1276 = .ok (.iaload, 1) := by decide +kernel
theorem d_law_1277 : decode code 1277 = .ok (.invokevirtual 146, 3) := by decide +kernel
theorem d_law_1280 : decode code 1280 = .ok (.istore 6, 2) := by decide +kernel
theorem d_law_1282 : decode code 1282 = .ok (.aload_n 2, 1) := by decide +kernel
theorem d_law_1283 : decode code 1283 = .ok (.invokevirtual 97, 3) := by decide +kernel
theorem d_law_1286 : decode code 1286 = .ok (.iload 5, 2) := by decide +kernel
theorem d_law_1288 : decode code 1288 = .ok (.if_icmp .eq 5, 3) := by decide +kernel
theorem d_law_1293 : decode code 1293 = .ok (.iload 5, 2) := by decide +kernel
theorem d_law_1295 : decode code 1295 = .ok (.ifCond .ne 15, 3) := by decide +kernel
theorem d_law_1310 : decode code 1310 = .ok (.goto 327, 3) := by decide +kernel
theorem d_law_1313 : decode code 1313 = .ok (.aload_n 1, 1) := by decide +kernel
theorem d_law_1314 : decode code 1314 = .ok (.aload_n 0, 1) := by decide +kernel
theorem d_law_1315 : decode code 1315 = .ok (.iload 4, 2) := by decide +kernel
theorem d_law_1317 : decode code 1317 = .ok (.iconst 1, 1) := by decide +kernel
theorem d_law_1318 : decode code 1318 = .ok (.iadd, 1) := by decide +kernel
theorem d_law_1319 : decode code 1319 = .ok (.iaload, 1) := by decide +kernel
theorem d_law_1320 : decode code 1320 = .ok (.aload_n 0, 1) := by decide +kernel
theorem d_law_1321 : decode code 1321 = .ok (.iload 4, 2) := by decide +kernel
theorem d_law_1323 : decode code 1323 = .ok (.iconst 2, 1) := by decide +kernel
theorem d_law_1324 : decode code 1324 = .ok (.iadd, 1) := by decide +kernel
theorem d_law_1325 : decode code 1325 = .ok (.iaload, 1) := by decide +kernel
theorem d_law_1326 : decode code 1326 = .ok (.aload_n 3, 1) := by decide +kernel
theorem d_law_1327 : decode code 1327 = .ok (.invokestatic 147, 3) := by decide +kernel
theorem d_law_1330 : decode code 1330 = .ok (.istore 5, 2) := by decide +kernel
theorem d_law_1332 : decode code 1332 = .ok (.aload_n 2, 1) := by decide +kernel
theorem d_law_1333 : decode code 1333 = .ok (.aload_n 0, 1) := by decide +kernel
theorem d_law_1334 : decode code 1334 = .ok (.iload 4, 2) := by decide +kernel
theorem d_law_1336 : decode code 1336 = .ok (.iconst 1, 1) := by decide +kernel
theorem d_law_1337 : decode code 1337 = .ok (.iadd, 1) := by decide +kernel
theorem d_law_1338 : decode code 1338 = .ok (.iaload, 1) := by decide +kernel
theorem d_law_1339 : decode code 1339 = .ok (.aload_n 0, 1) := by decide +kernel
theorem d_law_1340 : decode code 1340 = .ok (.iload 4, 2) := by decide +kernel
theorem d_law_1342 : decode code 1342 = .ok (.iconst 2, 1) := by decide +kernel
theorem d_law_1343 : decode code 1343 = .ok (.iadd, 1) := by decide +kernel
theorem d_law_1344 : decode code 1344 = .ok (.iaload, 1) := by decide +kernel
theorem d_law_1345 : decode code 1345 = .ok (.invokevirtual 149, 3) := by decide +kernel
theorem d_law_1348 : decode code 1348 = .ok (.istore 6, 2) := by decide +kernel
theorem d_law_1350 : decode code 1350 = .ok (.aload_n 2, 1) := by decide +kernel
theorem d_law_1351 : decode code 1351 = .ok (.invokevirtual 97, 3) := by decide +kernel
theorem d_law_1354 : decode code 1354 = .ok (.iload 5, 2) := by decide +kernel
theorem d_law_1356 : decode code 1356 = .ok (.if_icmp .eq 5, 3) := by decide +kernel
theorem d_law_1361 : decode code 1361 = .ok (.iload 5, 2) := by decide +kernel
theorem d_law_1363 : decode code 1363 = .ok (.ifCond .ne 15, 3) := by decide +kernel
theorem d_law_1378 : decode code 1378 = .ok (.goto 259, 3) := by decide +kernel
theorem d_law_1381 : decode code 1381 = .ok (.aload_n 1, 1) := by decide +kernel
theorem d_law_1382 : decode code 1382 = .ok (.aload_n 0, 1) := by decide +kernel
theorem d_law_1383 : decode code 1383 = .ok (.iload 4, 2) := by decide +kernel
theorem d_law_1385 : decode code 1385 = .ok (.iconst 1, 1) := by decide +kernel
theorem d_law_1386 : decode code 1386 = .ok (.iadd, 1) := by decide +kernel
theorem d_law_1387 : decode code 1387 = .ok (.iaload, 1) := by decide +kernel
theorem d_law_1388 : decode code 1388 = .ok (.aload_n 3, 1) := by decide +kernel
theorem d_law_1389 : decode code 1389 = .ok (.invokestatic 150, 3) := by decide +kernel
theorem d_law_1392 : decode code 1392 = .ok (.istore 5, 2) := by decide +kernel
theorem d_law_1394 : decode code 1394 = .ok (.aload_n 2, 1) := by decide +kernel
theorem d_law_1395 : decode code 1395 = .ok (.aload_n 0, 1) := by decide +kernel
theorem d_law_1396 : decode code 1396 = .ok (.iload 4, 2) := by decide +kernel
