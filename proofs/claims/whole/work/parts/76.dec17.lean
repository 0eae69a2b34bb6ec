theorem d_law_1457 : decode code 1457 = .ok (.invokevirtual 155, 3) := by decide +kernel
theorem d_law_1460 : decode code 1460 = .ok (.istore 6, 2) := by decide +kernel
theorem d_law_1462 : decode code 1462 = .ok (.aload_n 2, 1) := by decide +kernel
theorem d_law_1463 : decode code 1463 = .ok (.invokevirtual 97, 3) := by decide +kernel
theorem d_law_1466 : decode code 1466 = .ok (.iload 5, 2) := by decide +kernel
theorem d_law_1468 : decode code 1468 = .ok (.if_icmp .eq 5, 3) := by decide +kernel
theorem d_law_1473 : decode code 1473 = .ok (.iload 5, 2) := by decide +kernel
theorem d_law_1475 : decode code 1475 = .ok (.ifCond .ne 15, 3) := by decide +kernel
theorem d_law_1478 : decode code 1478 = .ok (.aload_n 3, 1) := by decide +kernel
theorem d_law_1479 : decode code 1479 = .ok (.iconst 0, 1) := by decide +kernel
theorem d_law_1480 : decode code 1480 = .ok (.laload, 1) := by decide +kernel
theorem d_law_1481 : decode code 1481 = .ok (.iload 6, 2) := by decide +kernel
theorem d_law_1483 : decode code 1483 = .ok (.i2l, 1) := by decide +kernel
theorem d_law_1484 : decode code 1484 = .ok (.lcmp, 1) := by decide +kernel
theorem d_law_1485 : decode code 1485 = .ok (.ifCond .eq 5, 3) := by decide +kernel
theorem d_law_1490 : decode code 1490 = .ok (.goto 147, 3) := by decide +kernel
theorem d_law_1493 : decode code 1493 = .ok (.aload_n 1, 1) := by decide +kernel
theorem d_law_1494 : decode code 1494 = .ok (.aload_n 3, 1) := by decide +kernel
theorem d_law_1495 : decode code 1495 = .ok (.invokestatic 156, 3) := by decide +kernel
theorem d_law_1498 : decode code 1498 = .ok (.istore 5, 2) := by decide +kernel
theorem d_law_1500 : decode code 1500 = .ok (.aload_n 2, 1) := by decide +kernel
theorem d_law_1501 : decode code 1501 = .ok (.invokevirtual 158, 3) := by decide +kernel
theorem d_law_1504 : decode code 1504 = .ok (.istore 6, 2) := by decide +kernel
theorem d_law_1506 : decode code 1506 = .ok (.aload_n 2, 1) := by decide +kernel
theorem d_law_1507 : decode code 1507 = .ok (.invokevirtual 97, 3) := by decide +kernel
theorem d_law_1510 : decode code 1510 = .ok (.iload 5, 2) := by decide +kernel
theorem d_law_1512 : decode code 1512 = .ok (.if_icmp .eq 5, 3) := by decide +kernel
theorem d_law_1517 : decode code 1517 = .ok (.iload 5, 2) := by decide +kernel
theorem d_law_1519 : decode code 1519 = .ok (.ifCond .ne 15, 3) := by decide +kernel
theorem d_law_1522 : decode code 1522 = .ok (.aload_n 3, 1) := by decide +kernel
theorem d_law_1523 : decode code 1523 = .ok (.iconst 0, 1) := by decide +kernel
theorem d_law_1524 : decode code 1524 = .ok (.laload, 1) := by decide +kernel
theorem d_law_1525 : decode code 1525 = .ok (.iload 6, 2) := by decide +kernel
theorem d_law_1527 : decode code 1527 = .ok (.i2l, 1) := by decide +kernel
theorem d_law_1528 : decode code 1528 = .ok (.lcmp, 1) := by decide +kernel
theorem d_law_1529 : decode code 1529 = .ok (.ifCond .eq 5, 3) := by decide +kernel
theorem d_law_1534 : decode code 1534 = .ok (.goto 103, 3) := by decide +kernel
theorem d_law_1537 : decode code 1537 = .ok (.aload_n 1, 1) := by decide +kernel
theorem d_law_1538 : decode code 1538 = .ok (.aload_n 0, 1) := by decide +kernel
theorem d_law_1539 : decode code 1539 = .ok (.iload 4, 2) := by decide +kernel
theorem d_law_1541 : decode code 1541 = .ok (.iconst 1, 1) := by decide +kernel
theorem d_law_1542 : decode code 1542 = .ok (.iadd, 1) := by decide +kernel
theorem d_law_1543 : decode code 1543 = .ok (.iaload, 1) := by decide +kernel
theorem d_law_1544 : decode code 1544 = .ok (.aload_n 3, 1) := by decide +kernel
theorem d_law_1545 : decode code 1545 = .ok (.invokestatic 159, 3) := by decide +kernel
theorem d_law_1548 : decode code 1548 = .ok (.istore 5, 2) := by decide +kernel
theorem d_law_1550 : decode code 1550 = .ok (.aload_n 2, 1) := by decide +kernel
theorem d_law_1551 : decode code 1551 = .ok (.aload_n 0, 1) := by decide +kernel
theorem d_law_1552 : decode code 1552 = .ok (.iload 4, 2) := by decide +kernel
theorem d_law_1554 : decode code 1554 = .ok (.iconst 1, 1) := by decide +kernel
