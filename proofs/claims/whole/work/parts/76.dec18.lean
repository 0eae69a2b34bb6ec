theorem d_law_1555 : decode code 1555 = .ok (.iadd, 1) := by decide +kernel
theorem d_law_1556 : decode code 1556 = .ok (.iaload, 1) := by decide +kernel
theorem d_law_1557 : decode code 1557 = .ok (.invokevirtual 161, 3) := by decide +kernel
theorem d_law_1560 : decode code 1560 = .ok (.istore 6, 2) := by decide +kernel
theorem d_law_1562 : decode code 1562 = .ok (.aload_n 2, 1) := by decide +kernel
theorem d_law_1563 : decode code 1563 = .ok (.invokevirtual 97, 3) := by decide +kernel
theorem d_law_1566 : decode code 1566 = .ok (.iload 5, 2) := by decide +kernel
theorem d_law_1568 : decode code 1568 = .ok (.if_icmp .eq 5, 3) := by decide +kernel
theorem d_law_1573 : decode code 1573 = .ok (.iload 5, 2) := by decide +kernel
theorem d_law_1575 : decode code 1575 = .ok (.ifCond .ne 15, 3) := by decide +kernel
theorem d_law_1578 : decode code 1578 = .ok (.aload_n 3, 1) := by decide +kernel
theorem d_law_1579 : decode code 1579 = .ok (.iconst 0, 1) := by decide +kernel
theorem d_law_1580 : decode code 1580 = .ok (.laload, 1) := by decide +kernel
theorem d_law_1581 : decode code 1581 = .ok (.iload 6, 2) := by decide +kernel
theorem d_law_1583 : decode code 1583 = .ok (.i2l, 1) := by decide +kernel
theorem d_law_1584 : decode code 1584 = .ok (.lcmp, 1) := by decide +kernel
theorem d_law_1585 : decode code 1585 = .ok (.ifCond .eq 5, 3) := by decide +kernel
theorem d_law_1590 : decode code 1590 = .ok (.goto 47, 3) := by decide +kernel
theorem d_law_1593 : decode code 1593 = .ok (.aload_n 1, 1) := by decide +kernel
theorem d_law_1594 : decode code 1594 = .ok (.aload_n 3, 1) := by decide +kernel
theorem d_law_1595 : decode code 1595 = .ok (.invokestatic 162, 3) := by decide +kernel
theorem d_law_1598 : decode code 1598 = .ok (.istore 5, 2) := by decide +kernel
theorem d_law_1600 : decode code 1600 = .ok (.aload_n 2, 1) := by decide +kernel
theorem d_law_1601 : decode code 1601 = .ok (.invokevirtual 164, 3) := by decide +kernel
theorem d_law_1604 : decode code 1604 = .ok (.istore 6, 2) := by decide +kernel
theorem d_law_1606 : decode code 1606 = .ok (.aload_n 2, 1) := by decide +kernel
theorem d_law_1607 : decode code 1607 = .ok (.invokevirtual 97, 3) := by decide +kernel
theorem d_law_1610 : decode code 1610 = .ok (.iload 5, 2) := by decide +kernel
theorem d_law_1612 : decode code 1612 = .ok (.if_icmp .eq 5, 3) := by decide +kernel
theorem d_law_1617 : decode code 1617 = .ok (.iload 5, 2) := by decide +kernel
theorem d_law_1619 : decode code 1619 = .ok (.ifCond .ne 15, 3) := by decide +kernel
theorem d_law_1622 : decode code 1622 = .ok (.aload_n 3, 1) := by decide +kernel
theorem d_law_1623 : decode code 1623 = .ok (.iconst 0, 1) := by decide +kernel
theorem d_law_1624 : decode code 1624 = .ok (.laload, 1) := by decide +kernel
theorem d_law_1625 : decode code 1625 = .ok (.iload 6, 2) := by decide +kernel
theorem d_law_1627 : decode code 1627 = .ok (.i2l, 1) := by decide +kernel
theorem d_law_1628 : decode code 1628 = .ok (.lcmp, 1) := by decide +kernel
theorem d_law_1629 : decode code 1629 = .ok (.ifCond .eq 5, 3) := by decide +kernel
theorem d_law_1634 : decode code 1634 = .ok (.goto 3, 3) := by decide +kernel
theorem d_law_1637 : decode code 1637 = .ok (.iinc 4 7, 3) := by decide +kernel
theorem d_law_1640 : decode code 1640 = .ok (.goto (-1617), 3) := by decide +kernel
theorem d_law_1643 : decode code 1643 = .ok (.iconst 1, 1) := by decide +kernel
theorem d_law_1644 : decode code 1644 = .ok (.ireturn, 1) := by decide +kernel
