theorem d_law_1541 : decode code 1541 = .ok (.iconst 1, 1) := by decide +kernel
theorem d_law_1542 : decode code 1542 = .ok (.iadd, 1) := by decide +kernel
theorem d_law_1543 : decode code 1543 = .ok (.iaload, 1) := by decide +kernel
theorem d_law_1544 : decode code 1544 = .ok (.aload_n 3, 1) := by decide +kernel
theorem d_law_1545 : decode code 1545 = .ok (.invokestatic 159, 3) := by decide +kernel
theorem d_law_1548 : decode code 1548 = .ok (.istore 5, 2) := by decide +kernel
theorem d_law_1550 : decode code 1550 = .ok (.aload_n 2, 1) := by decide +kernel
theorem d_law_1551 : decode code 1551 = .ok (.aload_n 0, 1) := by decide +kernel
theorem d_law_1552 : decode code 1552 = .ok (.iload 4, 2) := by decide +kernel
theorem d_law_1554 : decode code 1554 = .ok (.iconst 1, 1) := by decide +kernel
theorem d_law_1555 : decode code 1555 = .ok (.iadd, 1) := by decide +kernel
theorem d_law_1556 : decode code 1556 = .ok (.iaload, 1) := by decide +kernel
theorem d_law_1557 : decode code 1557 = .ok (.invokevirtual 161, 3) := by decide +kernel
theorem d_law_1560 : decode code 1560 = .ok (.istore 6, 2) := by decide +kernel
theorem d_law_1562 : decode code 1562 = .ok (.aload_n 2, 1) := by decide +kernel
theorem d_law_1563 : decode code 1563 = .ok (.invokevirtual 97, 3) := by decide +kernel
theorem d_law_1566 : decode code 1566 = .ok (.iload 5, 2) := by decide +kernel
theorem d_law_1568 : decode code 1568 = .ok (.if_icmp .eq 5, 3) := by decide +kernel
theorem d_law_1573 : decode code 1573 = .ok (.iload 5, 2) := by decide +kernel
theorem d_law_1575 : decode code 1575 = .ok (.ifCond .ne 15, 3) := by decide +kernel
theorem d_law_1590 : decode code 1590 = .ok (.goto 47, 3) := by decide +kernel
theorem d_law_1593 : decode code 1593 = .ok (.aload_n 1, 1) := by decide +kernel
theorem d_law_1594 : decode code 1594 = .ok (.aload_n 3, 1) := by decide +kernel
theorem d_law_1595 : decode code 1595 = .ok (.invokestatic 162, 3) := by decide +kernel
theorem d_law_1598 : decode code 1598 = .ok (.istore 5, 2) := by decide +kernel
theorem d_law_1600 : decode code 1600 = .ok (.aload_n 2, 1) := by decide +kernel
theorem d_law_1601 : decode code 1601 = .ok (.invokevirtual 164, 3) := by decide +kernel
theorem d_law_1604 : decode code 1604 = .ok (.istore 6, 2) := by decide +kernel
theorem d_law_1606 : decode code 1606 = .ok (.aload_n 2, 1) := by decide +kernel
theorem d_law_1607 : decode code 1607 = .ok (.invokevirtual 97, 3) := by decide +kernel
theorem d_law_1610 : decode code 1610 = .ok (.iload 5, 2) := by decide +kernel
theorem d_law_1612 : decode code 1612 = .ok (.if_icmp .eq 5, 3) := by decide +kernel
theorem d_law_1617 : decode code 1617 = .ok (.iload 5, 2) := by decide +kernel
theorem d_law_1619 : decode code 1619 = .ok (.ifCond .ne 15, 3) := by decide +kernel
theorem d_law_1634 : decode code 1634 = .ok (.goto 3, 3) := by decide +kernel
