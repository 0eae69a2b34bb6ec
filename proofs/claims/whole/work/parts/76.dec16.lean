theorem d_law_1371 : decode code 1371 = .ok (.i2l, 1) := by decide +kernel
theorem d_law_1372 : decode code 1372 = .ok (.lcmp, 1) := by decide +kernel
theorem d_law_1373 : decode code 1373 = .ok (.ifCond .eq 5, 3) := by decide +kernel
theorem d_law_1378 : decode code 1378 = .ok (.goto 259, 3) := by decide +kernel
theorem d_law_1381 : decode code 1381 = .ok (.aload_n 1, 1) := by decide +kernel
theorem d_law_1382 : decode code 1382 = .ok (.aload_n 0, 1) := by decide +kernel
theorem d_law_1383 : decode code 1383 = .ok (.iload 4, 2) := by decide +kernel
theorem d_law_1385 : decode code 1385 = .ok (.iconst 1, 1) := by decide +kernel
theorem d_law_1386 : decode code 1386 = .ok (.iadd, 1) := by decide +kernel
theorem d_law_1387 : decode code 1387 = .ok (.iaload, 1) := by decide +kernel
theorem d_law_1388 : decode code 1388 = .ok (.aload_n 3, 1) := by decide +kernel
theorem d_law_1389 : decode code 1389 = .ok (.invokestatic 150, 3) := by decide +kernel
theorem d_law_1392 : decode code 1392 = .ok (.istore 5, 2) := by decide +kernel
theorem d_law_1394 : decode code 1394 = .ok (.aload_n 2, 1) := by decide +kernel
theorem d_law_1395 : decode code 1395 = .ok (.aload_n 0, 1) := by decide +kernel
theorem d_law_1396 : decode code 1396 = .ok (.iload 4, 2) := by decide +kernel
theorem d_law_1398 : decode code 1398 = .ok (.iconst 1, 1) := by decide +kernel
theorem d_law_1399 : decode code 1399 = .ok (.iadd, 1) := by decide +kernel
theorem d_law_1400 : decode code 1400 = .ok (.iaload, 1) := by decide +kernel
theorem d_law_1401 : decode code 1401 = .ok (.invokevirtual 152, 3) := by decide +kernel
theorem d_law_1404 : decode code 1404 = .ok (.istore 6, 2) := by decide +kernel
theorem d_law_1406 : decode code 1406 = .ok (.aload_n 2, 1) := by decide +kernel
theorem d_law_1407 : decode code 1407 = .ok (.invokevirtual 97, 3) := by decide +kernel
theorem d_law_1410 : decode code 1410 = .ok (.iload 5, 2) := by decide +kernel
theorem d_law_1412 : decode code 1412 = .ok (.if_icmp .eq 5, 3) := by decide +kernel
theorem d_law_1417 : decode code 1417 = .ok (.iload 5, 2) := by decide +kernel
theorem d_law_1419 : decode code 1419 = .ok (.ifCond .ne 15, 3) := by decide +kernel
theorem d_law_1422 : decode code 1422 = .ok (.aload_n 3, 1) := by decide +kernel
theorem d_law_1423 : decode code 1423 = .ok (.iconst 0, 1) := by decide +kernel
theorem d_law_1424 : decode code 1424 = .ok (.laload, 1) := by decide +kernel
theorem d_law_1425 : decode code 1425 = .ok (.iload 6, 2) := by decide +kernel
theorem d_law_1427 : decode code 1427 = .ok (.i2l, 1) := by decide +kernel
theorem d_law_1428 : decode code 1428 = .ok (.lcmp, 1) := by decide +kernel
theorem d_law_1429 : decode code 1429 = .ok (.ifCond .eq 5, 3) := by decide +kernel
theorem d_law_1434 : decode code 1434 = .ok (.goto 203, 3) := by decide +kernel
theorem d_law_1437 : decode code 1437 = .ok (.aload_n 1, 1) := by decide +kernel
theorem d_law_1438 : decode code 1438 = .ok (.aload_n 0, 1) := by decide +kernel
theorem d_law_1439 : decode code 1439 = .ok (.iload 4, 2) := by decide +kernel
theorem d_law_1441 : decode code 1441 = .ok (.iconst 1, 1) := by decide +kernel
theorem d_law_1442 : decode code 1442 = .ok (.iadd, 1) := by decide +kernel
theorem d_law_1443 : decode code 1443 = .ok (.iaload, 1) := by decide +kernel
theorem d_law_1444 : decode code 1444 = .ok (.aload_n 3, 1) := by decide +kernel
theorem d_law_1445 : decode code 1445 = .ok (.invokestatic 153, 3) := by decide +kernel
theorem d_law_1448 : decode code 1448 = .ok (.istore 5, 2) := by decide +kernel
theorem d_law_1450 : decode code 1450 = .ok (.aload_n 2, 1) := by decide +kernel
theorem d_law_1451 : decode code 1451 = .ok (.aload_n 0, 1) := by decide +kernel
theorem d_law_1452 : decode code 1452 = .ok (.iload 4, 2) := by decide +kernel
theorem d_law_1454 : decode code 1454 = .ok (.iconst 1, 1) := by decide +kernel
theorem d_law_1455 : decode code 1455 = .ok (.iadd, 1) := by decide +kernel
theorem d_law_1456 : decode code 1456 = .ok (.iaload, 1) := by decide +kernel
