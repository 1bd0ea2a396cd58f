theorem dL_law_1457 : decode cL_law 1457 = .ok (.aload_n 1, 1) := by decide +kernel
theorem dL_law_1458 : decode cL_law 1458 = .ok (.aload_n 0, 1) := by decide +kernel
theorem dL_law_1459 : decode cL_law 1459 = .ok (.iload 4, 2) := by decide +kernel
theorem dL_law_1461 : decode cL_law 1461 = .ok (.iconst 1, 1) := by decide +kernel
theorem dL_law_1462 : decode cL_law 1462 = .ok (.iadd, 1) := by decide +kernel
theorem dL_law_1463 : decode cL_law 1463 = .ok (.iaload, 1) := by decide +kernel
theorem dL_law_1464 : decode cL_law 1464 = .ok (.aload_n 0, 1) := by decide +kernel
theorem dL_law_1465 : decode cL_law 1465 = .ok (.iload 4, 2) := by decide +kernel
theorem dL_law_1467 : decode cL_law 1467 = .ok (.iconst 2, 1) := by decide +kernel
theorem dL_law_1468 : decode cL_law 1468 = .ok (.iadd, 1) := by decide +kernel
theorem dL_law_1469 : decode cL_law 1469 = .ok (.iaload, 1) := by decide +kernel
theorem dL_law_1470 : decode cL_law 1470 = .ok (.aload_n 0, 1) := by decide +kernel
theorem dL_law_1471 : decode cL_law 1471 = .ok (.iload 4, 2) := by decide +kernel
theorem dL_law_1473 : decode cL_law 1473 = .ok (.iconst 3, 1) := by decide +kernel
theorem dL_law_1474 : decode cL_law 1474 = .ok (.iadd, 1) := by decide +kernel
theorem dL_law_1475 : decode cL_law 1475 = .ok (.iaload, 1) := by decide +kernel
theorem dL_law_1476 : decode cL_law 1476 = .ok (.aload_n 3, 1) := by decide +kernel
theorem dL_law_1477 : decode cL_law 1477 = .ok (.invokestatic 207, 3) := by decide +kernel
theorem dL_law_1480 : decode cL_law 1480 = .ok (.istore 5, 2) := by decide +kernel
theorem dL_law_1482 : decode cL_law 1482 = .ok (.aload_n 2, 1) := by decide +kernel
theorem dL_law_1483 : decode cL_law 1483 = .ok (.aload_n 0, 1) := by decide +kernel
theorem dL_law_1484 : decode cL_law 1484 = .ok (.iload 4, 2) := by decide +kernel
theorem dL_law_1486 : decode cL_law 1486 = .ok (.iconst 1, 1) := by decide +kernel
theorem dL_law_1487 : decode cL_law 1487 = .ok (.iadd, 1) := by decide +kernel
theorem dL_law_1488 : decode cL_law 1488 = .ok (.iaload, 1) := by decide +kernel
theorem dL_law_1489 : decode cL_law 1489 = .ok (.aload_n 0, 1) := by decide +kernel
theorem dL_law_1490 : decode cL_law 1490 = .ok (.iload 4, 2) := by decide +kernel
theorem dL_law_1492 : decode cL_law 1492 = .ok (.iconst 2, 1) := by decide +kernel
theorem dL_law_1493 : decode cL_law 1493 = .ok (.iadd, 1) := by decide +kernel
theorem dL_law_1494 : decode cL_law 1494 = .ok (.iaload, 1) := by decide +kernel
theorem dL_law_1495 : decode cL_law 1495 = .ok (.aload_n 0, 1) := by decide +kernel
theorem dL_law_1496 : decode cL_law 1496 = .ok (.iload 4, 2) := by decide +kernel
theorem dL_law_1498 : decode cL_law 1498 = .ok (.iconst 3, 1) := by decide +kernel
theorem dL_law_1499 : decode cL_law 1499 = .ok (.iadd, 1) := by decide +kernel
theorem dL_law_1500 : decode cL_law 1500 = .ok (.iaload, 1) := by decide +kernel
theorem dL_law_1501 : decode cL_law 1501 = .ok (.invokevirtual 209, 3) := by decide +kernel
theorem dL_law_1504 : decode cL_law 1504 = .ok (.istore 6, 2) := by decide +kernel
theorem dL_law_1506 : decode cL_law 1506 = .ok (.aload_n 2, 1) := by decide +kernel
theorem dL_law_1507 : decode cL_law 1507 = .ok (.invokevirtual 143, 3) := by decide +kernel
theorem dL_law_1510 : decode cL_law 1510 = .ok (.iload 5, 2) := by decide +kernel
theorem dL_law_1512 : decode cL_law 1512 = .ok (.if_icmp .eq 5, 3) := by decide +kernel
theorem dL_law_1515 : decode cL_law 1515 = .ok (.iconst 0, 1) := by decide +kernel
theorem dL_law_1516 : decode cL_law 1516 = .ok (.ireturn, 1) := by decide +kernel
theorem dL_law_1517 : decode cL_law 1517 = .ok (.iload 5, 2) := by decide +kernel
theorem dL_law_1519 : decode cL_law 1519 = .ok (.ifCond .ne 15, 3) := by decide +kernel
theorem dL_law_1522 : decode cL_law 1522 = .ok (.aload_n 3, 1) := by decide +kernel
theorem dL_law_1523 : decode cL_law 1523 = .ok (.iconst 0, 1) := by decide +kernel
theorem dL_law_1524 : decode cL_law 1524 = .ok (.laload, 1) := by decide +kernel
theorem dL_law_1525 : decode cL_law 1525 = .ok (.iload 6, 2) := by decide +kernel
theorem dL_law_1527 : decode cL_law 1527 = .ok (.i2l, 1) := by decide +kernel
theorem dL_law_1528 : decode cL_law 1528 = .ok (.lcmp, 1) := by decide +kernel
theorem dL_law_1529 : decode cL_law 1529 = .ok (.ifCond .eq 5, 3) := by decide +kernel
theorem dL_law_1532 : decode cL_law 1532 = .ok (.iconst 0, 1) := by decide +kernel
theorem dL_law_1533 : decode cL_law 1533 = .ok (.ireturn, 1) := by decide +kernel
theorem dL_law_1534 : decode cL_law 1534 = .ok (.goto 1144, 3) := by decide +kernel
theorem dL_law_1537 : decode cL_law 1537 = .ok (.aload_n 1, 1) := by decide +kernel
theorem dL_law_1538 : decode cL_law 1538 = .ok (.aload_n 0, 1) := by decide +kernel
theorem dL_law_1539 : decode cL_law 1539 = .ok (.iload 4, 2) := by decide +kernel
theorem dL_law_1541 : decode cL_law 1541 = .ok (.iconst 1, 1) := by decide +kernel
theorem dL_law_1542 : decode cL_law 1542 = .ok (.iadd, 1) := by decide +kernel
theorem dL_law_1543 : decode cL_law 1543 = .ok (.iaload, 1) := by decide +kernel
theorem dL_law_1544 : decode cL_law 1544 = .ok (.aload_n 0, 1) := by decide +kernel
theorem dL_law_1545 : decode cL_law 1545 = .ok (.iload 4, 2) := by decide +kernel
theorem dL_law_1547 : decode cL_law 1547 = .ok (.iconst 2, 1) := by decide +kernel
theorem dL_law_1548 : decode cL_law 1548 = .ok (.iadd, 1) := by decide +kernel
theorem dL_law_1549 : decode cL_law 1549 = .ok (.iaload, 1) := by decide +kernel
theorem dL_law_1550 : decode cL_law 1550 = .ok (.aload_n 3, 1) := by decide +kernel
theorem dL_law_1551 : decode cL_law 1551 = .ok (.invokestatic 210, 3) := by decide +kernel
theorem dL_law_1554 : decode cL_law 1554 = .ok (.istore 5, 2) := by decide +kernel
theorem dL_law_1556 : decode cL_law 1556 = .ok (.aload_n 2, 1) := by decide +kernel
theorem dL_law_1557 : decode cL_law 1557 = .ok (.aload_n 0, 1) := by decide +kernel
theorem dL_law_1558 : decode cL_law 1558 = .ok (.iload 4, 2) := by decide +kernel
theorem dL_law_1560 : decode cL_law 1560 = .ok (.iconst 1, 1) := by decide +kernel
theorem dL_law_1561 : decode cL_law 1561 = .ok (.iadd, 1) := by decide +kernel
theorem dL_law_1562 : decode cL_law 1562 = .ok (.iaload, 1) := by decide +kernel
theorem dL_law_1563 : decode cL_law 1563 = .ok (.aload_n 0, 1) := by decide +kernel
theorem dL_law_1564 : decode cL_law 1564 = .ok (.iload 4, 2) := by decide +kernel
theorem dL_law_1566 : decode cL_law 1566 = .ok (.iconst 2, 1) := by decide +kernel
theorem dL_law_1567 : decode cL_law 1567 = .ok (.iadd, 1) := by decide +kernel
theorem dL_law_1568 : decode cL_law 1568 = .ok (.iaload, 1) := by decide +kernel
theorem dL_law_1569 : decode cL_law 1569 = .ok (.invokevirtual 212, 3) := by decide +kernel
theorem dL_law_1572 : decode cL_law 1572 = .ok (.lstore 6, 2) := by decide +kernel
theorem dL_law_1574 : decode cL_law 1574 = .ok (.aload_n 2, 1) := by decide +kernel
theorem dL_law_1575 : decode cL_law 1575 = .ok (.invokevirtual 143, 3) := by decide +kernel
theorem dL_law_1578 : decode cL_law 1578 = .ok (.iload 5, 2) := by decide +kernel
theorem dL_law_1580 : decode cL_law 1580 = .ok (.if_icmp .eq 5, 3) := by decide +kernel
theorem dL_law_1583 : decode cL_law 1583 = .ok (.iconst 0, 1) := by decide +kernel
theorem dL_law_1584 : decode cL_law 1584 = .ok (.ireturn, 1) := by decide +kernel
theorem dL_law_1585 : decode cL_law 1585 = .ok (.iload 5, 2) := by decide +kernel
theorem dL_law_1587 : decode cL_law 1587 = .ok (.ifCond .ne 14, 3) := by decide +kernel
theorem dL_law_1590 : decode cL_law 1590 = .ok (.aload_n 3, 1) := by decide +kernel
theorem dL_law_1591 : decode cL_law 1591 = .ok (.iconst 0, 1) := by decide +kernel
theorem dL_law_1592 : decode cL_law 1592 = .ok (.laload, 1) := by decide +kernel
theorem dL_law_1593 : decode cL_law 1593 = .ok (.lload 6, 2) := by decide +kernel
theorem dL_law_1595 : decode cL_law 1595 = .ok (.lcmp, 1) := by decide +kernel
theorem dL_law_1596 : decode cL_law 1596 = .ok (.ifCond .eq 5, 3) := by decide +kernel
theorem dL_law_1599 : decode cL_law 1599 = .ok (.iconst 0, 1) := by decide +kernel
theorem dL_law_1600 : decode cL_law 1600 = .ok (.ireturn, 1) := by decide +kernel
theorem dL_law_1601 : decode cL_law 1601 = .ok (.goto 1077, 3) := by decide +kernel
theorem dL_law_1604 : decode cL_law 1604 = .ok (.aload_n 1, 1) := by decide +kernel
theorem dL_law_1605 : decode cL_law 1605 = .ok (.aload_n 0, 1) := by decide +kernel
theorem dL_law_1606 : decode cL_law 1606 = .ok (.iload 4, 2) := by decide +kernel
theorem dL_law_1608 : decode cL_law 1608 = .ok (.iconst 1, 1) := by decide +kernel
theorem dL_law_1609 : decode cL_law 1609 = .ok (.iadd, 1) := by decide +kernel
theorem dL_law_1610 : decode cL_law 1610 = .ok (.iaload, 1) := by decide +kernel
theorem dL_law_1611 : decode cL_law 1611 = .ok (.aload_n 0, 1) := by decide +kernel
theorem dL_law_1612 : decode cL_law 1612 = .ok (.iload 4, 2) := by decide +kernel
theorem dL_law_1614 : decode cL_law 1614 = .ok (.iconst 2, 1) := by decide +kernel
theorem dL_law_1615 : decode cL_law 1615 = .ok (.iadd, 1) := by decide +kernel
theorem dL_law_1616 : decode cL_law 1616 = .ok (.iaload, 1) := by decide +kernel
theorem dL_law_1617 : decode cL_law 1617 = .ok (.aload_n 0, 1) := by decide +kernel
theorem dL_law_1618 : decode cL_law 1618 = .ok (.iload 4, 2) := by decide +kernel
theorem dL_law_1620 : decode cL_law 1620 = .ok (.iconst 3, 1) := by decide +kernel
theorem dL_law_1621 : decode cL_law 1621 = .ok (.iadd, 1) := by decide +kernel
theorem dL_law_1622 : decode cL_law 1622 = .ok (.iaload, 1) := by decide +kernel
theorem dL_law_1623 : decode cL_law 1623 = .ok (.i2l, 1) := by decide +kernel
theorem dL_law_1624 : decode cL_law 1624 = .ok (.bipush 32, 2) := by decide +kernel
theorem dL_law_1626 : decode cL_law 1626 = .ok (.lshl, 1) := by decide +kernel
theorem dL_law_1627 : decode cL_law 1627 = .ok (.aload_n 0, 1) := by decide +kernel
theorem dL_law_1628 : decode cL_law 1628 = .ok (.iload 4, 2) := by decide +kernel
theorem dL_law_1630 : decode cL_law 1630 = .ok (.iconst 4, 1) := by decide +kernel
theorem dL_law_1631 : decode cL_law 1631 = .ok (.iadd, 1) := by decide +kernel
theorem dL_law_1632 : decode cL_law 1632 = .ok (.iaload, 1) := by decide +kernel
theorem dL_law_1633 : decode cL_law 1633 = .ok (.i2l, 1) := by decide +kernel
theorem dL_law_1634 : decode cL_law 1634 = .ok (.ldc2_w 156, 3) := by decide +kernel
theorem dL_law_1637 : decode cL_law 1637 = .ok (.land, 1) := by decide +kernel
theorem dL_law_1638 : decode cL_law 1638 = .ok (.lor, 1) := by decide +kernel
theorem dL_law_1639 : decode cL_law 1639 = .ok (.aload_n 3, 1) := by decide +kernel
theorem dL_law_1640 : decode cL_law 1640 = .ok (.invokestatic 213, 3) := by decide +kernel
theorem dL_law_1643 : decode cL_law 1643 = .ok (.istore 5, 2) := by decide +kernel
theorem dL_law_1645 : decode cL_law 1645 = .ok (.aload_n 2, 1) := by decide +kernel
theorem dL_law_1646 : decode cL_law 1646 = .ok (.aload_n 0, 1) := by decide +kernel
theorem dL_law_1647 : decode cL_law 1647 = .ok (.iload 4, 2) := by decide +kernel
theorem dL_law_1649 : decode cL_law 1649 = .ok (.iconst 1, 1) := by decide +kernel
theorem dL_law_1650 : decode cL_law 1650 = .ok (.iadd, 1) := by decide +kernel
theorem dL_law_1651 : decode cL_law 1651 = .ok (.iaload, 1) := by decide +kernel
theorem dL_law_1652 : decode cL_law 1652 = .ok (.aload_n 0, 1) := by decide +kernel
theorem dL_law_1653 : decode cL_law 1653 = .ok (.iload 4, 2) := by decide +kernel
theorem dL_law_1655 : decode cL_law 1655 = .ok (.iconst 2, 1) := by decide +kernel
theorem dL_law_1656 : decode cL_law 1656 = .ok (.iadd, 1) := by decide +kernel
theorem dL_law_1657 : decode cL_law 1657 = .ok (.iaload, 1) := by decide +kernel
theorem dL_law_1658 : decode cL_law 1658 = .ok (.aload_n 0, 1) := by decide +kernel
theorem dL_law_1659 : decode cL_law 1659 = .ok (.iload 4, 2) := by decide +kernel
theorem dL_law_1661 : decode cL_law 1661 = .ok (.iconst 3, 1) := by decide +kernel
theorem dL_law_1662 : decode cL_law 1662 = .ok (.iadd, 1) := by decide +kernel
theorem dL_law_1663 : decode cL_law 1663 = .ok (.iaload, 1) := by decide +kernel
theorem dL_law_1664 : decode cL_law 1664 = .ok (.i2l, 1) := by decide +kernel
theorem dL_law_1665 : decode cL_law 1665 = .ok (.bipush 32, 2) := by decide +kernel
theorem dL_law_1667 : decode cL_law 1667 = .ok (.lshl, 1) := by decide +kernel
theorem dL_law_1668 : decode cL_law 1668 = .ok (.aload_n 0, 1) := by decide +kernel
theorem dL_law_1669 : decode cL_law 1669 = .ok (.iload 4, 2) := by decide +kernel
theorem dL_law_1671 : decode cL_law 1671 = .ok (.iconst 4, 1) := by decide +kernel
theorem dL_law_1672 : decode cL_law 1672 = .ok (.iadd, 1) := by decide +kernel
theorem dL_law_1673 : decode cL_law 1673 = .ok (.iaload, 1) := by decide +kernel
theorem dL_law_1674 : decode cL_law 1674 = .ok (.i2l, 1) := by decide +kernel
theorem dL_law_1675 : decode cL_law 1675 = .ok (.ldc2_w 156, 3) := by decide +kernel
theorem dL_law_1678 : decode cL_law 1678 = .ok (.land, 1) := by decide +kernel
theorem dL_law_1679 : decode cL_law 1679 = .ok (.lor, 1) := by decide +kernel
theorem dL_law_1680 : decode cL_law 1680 = .ok (.invokevirtual 216, 3) := by decide +kernel
theorem dL_law_1683 : decode cL_law 1683 = .ok (.istore 6, 2) := by decide +kernel
theorem dL_law_1685 : decode cL_law 1685 = .ok (.aload_n 2, 1) := by decide +kernel
theorem dL_law_1686 : decode cL_law 1686 = .ok (.invokevirtual 143, 3) := by decide +kernel
theorem dL_law_1689 : decode cL_law 1689 = .ok (.iload 5, 2) := by decide +kernel
theorem dL_law_1691 : decode cL_law 1691 = .ok (.if_icmp .eq 5, 3) := by decide +kernel
theorem dL_law_1694 : decode cL_law 1694 = .ok (.iconst 0, 1) := by decide +kernel
theorem dL_law_1695 : decode cL_law 1695 = .ok (.ireturn, 1) := by decide +kernel
theorem dL_law_1696 : decode cL_law 1696 = .ok (.iload 5, 2) := by decide +kernel
theorem dL_law_1698 : decode cL_law 1698 = .ok (.ifCond .ne 22, 3) := by decide +kernel
theorem dL_law_1701 : decode cL_law 1701 = .ok (.aload_n 3, 1) := by decide +kernel
theorem dL_law_1702 : decode cL_law 1702 = .ok (.iconst 0, 1) := by decide +kernel
theorem dL_law_1703 : decode cL_law 1703 = .ok (.laload, 1) := by decide +kernel
theorem dL_law_1704 : decode cL_law 1704 = .ok (.iload 6, 2) := by decide +kernel
theorem dL_law_1706 : decode cL_law 1706 = .ok (.ifCond .eq 7, 3) := by decide +kernel
theorem dL_law_1709 : decode cL_law 1709 = .ok (.lconst 1, 1) := by decide +kernel
theorem dL_law_1710 : decode cL_law 1710 = .ok (.goto 4, 3) := by decide +kernel
theorem dL_law_1713 : decode cL_law 1713 = .ok (.lconst 0, 1) := by decide +kernel
theorem dL_law_1714 : decode cL_law 1714 = .ok (.lcmp, 1) := by decide +kernel
theorem dL_law_1715 : decode cL_law 1715 = .ok (.ifCond .eq 5, 3) := by decide +kernel
theorem dL_law_1718 : decode cL_law 1718 = .ok (.iconst 0, 1) := by decide +kernel
theorem dL_law_1719 : decode cL_law 1719 = .ok (.ireturn, 1) := by decide +kernel
theorem dL_law_1720 : decode cL_law 1720 = .ok (.goto 958, 3) := by decide +kernel
theorem dL_law_1723 : decode cL_law 1723 = .ok (.aload_n 1, 1) := by decide +kernel
theorem dL_law_1724 : decode cL_law 1724 = .ok (.aload_n 0, 1) := by decide +kernel
theorem dL_law_1725 : decode cL_law 1725 = .ok (.iload 4, 2) := by decide +kernel
theorem dL_law_1727 : decode cL_law 1727 = .ok (.iconst 1, 1) := by decide +kernel
theorem dL_law_1728 : decode cL_law 1728 = .ok (.iadd, 1) := by decide +kernel
theorem dL_law_1729 : decode cL_law 1729 = .ok (.iaload, 1) := by decide +kernel
theorem dL_law_1730 : decode cL_law 1730 = .ok (.aload_n 3, 1) := by decide +kernel
theorem dL_law_1731 : decode cL_law 1731 = .ok (.invokestatic 217, 3) := by decide +kernel
theorem dL_law_1734 : decode cL_law 1734 = .ok (.istore 5, 2) := by decide +kernel
theorem dL_law_1736 : decode cL_law 1736 = .ok (.aload_n 2, 1) := by decide +kernel
theorem dL_law_1737 : decode cL_law 1737 = .ok (.aload_n 0, 1) := by decide +kernel
theorem dL_law_1738 : decode cL_law 1738 = .ok (.iload 4, 2) := by decide +kernel
theorem dL_law_1740 : decode cL_law 1740 = .ok (.iconst 1, 1) := by decide +kernel
theorem dL_law_1741 : decode cL_law 1741 = .ok (.iadd, 1) := by decide +kernel
theorem dL_law_1742 : decode cL_law 1742 = .ok (.iaload, 1) := by decide +kernel
theorem dL_law_1743 : decode cL_law 1743 = .ok (.invokevirtual 219, 3) := by decide +kernel
theorem dL_law_1746 : decode cL_law 1746 = .ok (.istore 6, 2) := by decide +kernel
theorem dL_law_1748 : decode cL_law 1748 = .ok (.aload_n 2, 1) := by decide +kernel
theorem dL_law_1749 : decode cL_law 1749 = .ok (.invokevirtual 143, 3) := by decide +kernel
theorem dL_law_1752 : decode cL_law 1752 = .ok (.iload 5, 2) := by decide +kernel
theorem dL_law_1754 : decode cL_law 1754 = .ok (.if_icmp .eq 5, 3) := by decide +kernel
theorem dL_law_1757 : decode cL_law 1757 = .ok (.iconst 0, 1) := by decide +kernel
theorem dL_law_1758 : decode cL_law 1758 = .ok (.ireturn, 1) := by decide +kernel
theorem dL_law_1759 : decode cL_law 1759 = .ok (.iload 5, 2) := by decide +kernel
theorem dL_law_1761 : decode cL_law 1761 = .ok (.ifCond .ne 15, 3) := by decide +kernel
theorem dL_law_1764 : decode cL_law 1764 = .ok (.aload_n 3, 1) := by decide +kernel
theorem dL_law_1765 : decode cL_law 1765 = .ok (.iconst 0, 1) := by decide +kernel
theorem dL_law_1766 : decode cL_law 1766 = .ok (.laload, 1) := by decide +kernel
theorem dL_law_1767 : decode cL_law 1767 = .ok (.iload 6, 2) := by decide +kernel
theorem dL_law_1769 : decode cL_law 1769 = .ok (.i2l, 1) := by decide +kernel
theorem dL_law_1770 : decode cL_law 1770 = .ok (.lcmp, 1) := by decide +kernel
theorem dL_law_1771 : decode cL_law 1771 = .ok (.ifCond .eq 5, 3) := by decide +kernel
theorem dL_law_1774 : decode cL_law 1774 = .ok (.iconst 0, 1) := by decide +kernel
theorem dL_law_1775 : decode cL_law 1775 = .ok (.ireturn, 1) := by decide +kernel
theorem dL_law_1776 : decode cL_law 1776 = .ok (.goto 902, 3) := by decide +kernel
theorem dL_law_1779 : decode cL_law 1779 = .ok (.aload_n 1, 1) := by decide +kernel
theorem dL_law_1780 : decode cL_law 1780 = .ok (.aload_n 0, 1) := by decide +kernel
theorem dL_law_1781 : decode cL_law 1781 = .ok (.iload 4, 2) := by decide +kernel
theorem dL_law_1783 : decode cL_law 1783 = .ok (.iconst 1, 1) := by decide +kernel
theorem dL_law_1784 : decode cL_law 1784 = .ok (.iadd, 1) := by decide +kernel
theorem dL_law_1785 : decode cL_law 1785 = .ok (.iaload, 1) := by decide +kernel
theorem dL_law_1786 : decode cL_law 1786 = .ok (.aload_n 0, 1) := by decide +kernel
theorem dL_law_1787 : decode cL_law 1787 = .ok (.iload 4, 2) := by decide +kernel
theorem dL_law_1789 : decode cL_law 1789 = .ok (.iconst 2, 1) := by decide +kernel
theorem dL_law_1790 : decode cL_law 1790 = .ok (.iadd, 1) := by decide +kernel
theorem dL_law_1791 : decode cL_law 1791 = .ok (.iaload, 1) := by decide +kernel
theorem dL_law_1792 : decode cL_law 1792 = .ok (.aload_n 3, 1) := by decide +kernel
theorem dL_law_1793 : decode cL_law 1793 = .ok (.invokestatic 220, 3) := by decide +kernel
theorem dL_law_1796 : decode cL_law 1796 = .ok (.istore 5, 2) := by decide +kernel
theorem dL_law_1798 : decode cL_law 1798 = .ok (.aload_n 2, 1) := by decide +kernel
theorem dL_law_1799 : decode cL_law 1799 = .ok (.aload_n 0, 1) := by decide +kernel
theorem dL_law_1800 : decode cL_law 1800 = .ok (.iload 4, 2) := by decide +kernel
theorem dL_law_1802 : decode cL_law 1802 = .ok (.iconst 1, 1) := by decide +kernel
theorem dL_law_1803 : decode cL_law 1803 = .ok (.iadd, 1) := by decide +kernel
theorem dL_law_1804 : decode cL_law 1804 = .ok (.iaload, 1) := by decide +kernel
theorem dL_law_1805 : decode cL_law 1805 = .ok (.aload_n 0, 1) := by decide +kernel
theorem dL_law_1806 : decode cL_law 1806 = .ok (.iload 4, 2) := by decide +kernel
theorem dL_law_1808 : decode cL_law 1808 = .ok (.iconst 2, 1) := by decide +kernel
theorem dL_law_1809 : decode cL_law 1809 = .ok (.iadd, 1) := by decide +kernel
theorem dL_law_1810 : decode cL_law 1810 = .ok (.iaload, 1) := by decide +kernel
theorem dL_law_1811 : decode cL_law 1811 = .ok (.invokevirtual 222, 3) := by decide +kernel
theorem dL_law_1814 : decode cL_law 1814 = .ok (.istore 6, 2) := by decide +kernel
theorem dL_law_1816 : decode cL_law 1816 = .ok (.aload_n 2, 1) := by decide +kernel
theorem dL_law_1817 : decode cL_law 1817 = .ok (.invokevirtual 143, 3) := by decide +kernel
theorem dL_law_1820 : decode cL_law 1820 = .ok (.iload 5, 2) := by decide +kernel
theorem dL_law_1822 : decode cL_law 1822 = .ok (.if_icmp .eq 5, 3) := by decide +kernel
theorem dL_law_1825 : decode cL_law 1825 = .ok (.iconst 0, 1) := by decide +kernel
theorem dL_law_1826 : decode cL_law 1826 = .ok (.ireturn, 1) := by decide +kernel
theorem dL_law_1827 : decode cL_law 1827 = .ok (.iload 5, 2) := by decide +kernel
theorem dL_law_1829 : decode cL_law 1829 = .ok (.ifCond .ne 15, 3) := by decide +kernel
theorem dL_law_1832 : decode cL_law 1832 = .ok (.aload_n 3, 1) := by decide +kernel
theorem dL_law_1833 : decode cL_law 1833 = .ok (.iconst 0, 1) := by decide +kernel
theorem dL_law_1834 : decode cL_law 1834 = .ok (.laload, 1) := by decide +kernel
theorem dL_law_1835 : decode cL_law 1835 = .ok (.iload 6, 2) := by decide +kernel
theorem dL_law_1837 : decode cL_law 1837 = .ok (.i2l, 1) := by decide +kernel
theorem dL_law_1838 : decode cL_law 1838 = .ok (.lcmp, 1) := by decide +kernel
theorem dL_law_1839 : decode cL_law 1839 = .ok (.ifCond .eq 5, 3) := by decide +kernel
theorem dL_law_1842 : decode cL_law 1842 = .ok (.iconst 0, 1) := by decide +kernel
theorem dL_law_1843 : decode cL_law 1843 = .ok (.ireturn, 1) := by decide +kernel
theorem dL_law_1844 : decode cL_law 1844 = .ok (.goto 834, 3) := by decide +kernel
theorem dL_law_1847 : decode cL_law 1847 = .ok (.aload_n 1, 1) := by decide +kernel
theorem dL_law_1848 : decode cL_law 1848 = .ok (.aload_n 3, 1) := by decide +kernel
theorem dL_law_1849 : decode cL_law 1849 = .ok (.invokestatic 223, 3) := by decide +kernel
theorem dL_law_1852 : decode cL_law 1852 = .ok (.istore 5, 2) := by decide +kernel
theorem dL_law_1854 : decode cL_law 1854 = .ok (.aload_n 2, 1) := by decide +kernel
theorem dL_law_1855 : decode cL_law 1855 = .ok (.invokevirtual 226, 3) := by decide +kernel
theorem dL_law_1858 : decode cL_law 1858 = .ok (.lstore 6, 2) := by decide +kernel
theorem dL_law_1860 : decode cL_law 1860 = .ok (.aload_n 2, 1) := by decide +kernel
theorem dL_law_1861 : decode cL_law 1861 = .ok (.invokevirtual 143, 3) := by decide +kernel
theorem dL_law_1864 : decode cL_law 1864 = .ok (.iload 5, 2) := by decide +kernel
theorem dL_law_1866 : decode cL_law 1866 = .ok (.if_icmp .eq 5, 3) := by decide +kernel
theorem dL_law_1869 : decode cL_law 1869 = .ok (.iconst 0, 1) := by decide +kernel
theorem dL_law_1870 : decode cL_law 1870 = .ok (.ireturn, 1) := by decide +kernel
theorem dL_law_1871 : decode cL_law 1871 = .ok (.iload 5, 2) := by decide +kernel
theorem dL_law_1873 : decode cL_law 1873 = .ok (.ifCond .ne 14, 3) := by decide +kernel
theorem dL_law_1876 : decode cL_law 1876 = .ok (.aload_n 3, 1) := by decide +kernel
theorem dL_law_1877 : decode cL_law 1877 = .ok (.iconst 0, 1) := by decide +kernel
theorem dL_law_1878 : decode cL_law 1878 = .ok (.laload, 1) := by decide +kernel
theorem dL_law_1879 : decode cL_law 1879 = .ok (.lload 6, 2) := by decide +kernel
theorem dL_law_1881 : decode cL_law 1881 = .ok (.lcmp, 1) := by decide +kernel
theorem dL_law_1882 : decode cL_law 1882 = .ok (.ifCond .eq 5, 3) := by decide +kernel
theorem dL_law_1885 : decode cL_law 1885 = .ok (.iconst 0, 1) := by decide +kernel
theorem dL_law_1886 : decode cL_law 1886 = .ok (.ireturn, 1) := by decide +kernel
theorem dL_law_1887 : decode cL_law 1887 = .ok (.goto 791, 3) := by decide +kernel
theorem dL_law_1890 : decode cL_law 1890 = .ok (.aload_n 1, 1) := by decide +kernel
theorem dL_law_1891 : decode cL_law 1891 = .ok (.aload_n 0, 1) := by decide +kernel
theorem dL_law_1892 : decode cL_law 1892 = .ok (.iload 4, 2) := by decide +kernel
theorem dL_law_1894 : decode cL_law 1894 = .ok (.iconst 1, 1) := by decide +kernel
theorem dL_law_1895 : decode cL_law 1895 = .ok (.iadd, 1) := by decide +kernel
theorem dL_law_1896 : decode cL_law 1896 = .ok (.iaload, 1) := by decide +kernel
theorem dL_law_1897 : decode cL_law 1897 = .ok (.aload_n 0, 1) := by decide +kernel
theorem dL_law_1898 : decode cL_law 1898 = .ok (.iload 4, 2) := by decide +kernel
theorem dL_law_1900 : decode cL_law 1900 = .ok (.iconst 2, 1) := by decide +kernel
theorem dL_law_1901 : decode cL_law 1901 = .ok (.iadd, 1) := by decide +kernel
theorem dL_law_1902 : decode cL_law 1902 = .ok (.iaload, 1) := by decide +kernel
theorem dL_law_1903 : decode cL_law 1903 = .ok (.aload_n 3, 1) := by decide +kernel
theorem dL_law_1904 : decode cL_law 1904 = .ok (.invokestatic 227, 3) := by decide +kernel
theorem dL_law_1907 : decode cL_law 1907 = .ok (.istore 5, 2) := by decide +kernel
theorem dL_law_1909 : decode cL_law 1909 = .ok (.aload_n 2, 1) := by decide +kernel
theorem dL_law_1910 : decode cL_law 1910 = .ok (.aload_n 0, 1) := by decide +kernel
theorem dL_law_1911 : decode cL_law 1911 = .ok (.iload 4, 2) := by decide +kernel
theorem dL_law_1913 : decode cL_law 1913 = .ok (.iconst 1, 1) := by decide +kernel
theorem dL_law_1914 : decode cL_law 1914 = .ok (.iadd, 1) := by decide +kernel
theorem dL_law_1915 : decode cL_law 1915 = .ok (.iaload, 1) := by decide +kernel
theorem dL_law_1916 : decode cL_law 1916 = .ok (.aload_n 0, 1) := by decide +kernel
theorem dL_law_1917 : decode cL_law 1917 = .ok (.iload 4, 2) := by decide +kernel
theorem dL_law_1919 : decode cL_law 1919 = .ok (.iconst 2, 1) := by decide +kernel
theorem dL_law_1920 : decode cL_law 1920 = .ok (.iadd, 1) := by decide +kernel
theorem dL_law_1921 : decode cL_law 1921 = .ok (.iaload, 1) := by decide +kernel
theorem dL_law_1922 : decode cL_law 1922 = .ok (.invokevirtual 229, 3) := by decide +kernel
theorem dL_law_1925 : decode cL_law 1925 = .ok (.istore 6, 2) := by decide +kernel
theorem dL_law_1927 : decode cL_law 1927 = .ok (.aload_n 2, 1) := by decide +kernel
theorem dL_law_1928 : decode cL_law 1928 = .ok (.invokevirtual 143, 3) := by decide +kernel
theorem dL_law_1931 : decode cL_law 1931 = .ok (.iload 5, 2) := by decide +kernel
theorem dL_law_1933 : decode cL_law 1933 = .ok (.if_icmp .eq 5, 3) := by decide +kernel
theorem dL_law_1936 : decode cL_law 1936 = .ok (.iconst 0, 1) := by decide +kernel
theorem dL_law_1937 : decode cL_law 1937 = .ok (.ireturn, 1) := by decide +kernel
theorem dL_law_1938 : decode cL_law 1938 = .ok (.iload 5, 2) := by decide +kernel
theorem dL_law_1940 : decode cL_law 1940 = .ok (.ifCond .ne 15, 3) := by decide +kernel
theorem dL_law_1943 : decode cL_law 1943 = .ok (.aload_n 3, 1) := by decide +kernel
theorem dL_law_1944 : decode cL_law 1944 = .ok (.iconst 0, 1) := by decide +kernel
theorem dL_law_1945 : decode cL_law 1945 = .ok (.laload, 1) := by decide +kernel
theorem dL_law_1946 : decode cL_law 1946 = .ok (.iload 6, 2) := by decide +kernel
theorem dL_law_1948 : decode cL_law 1948 = .ok (.i2l, 1) := by decide +kernel
theorem dL_law_1949 : decode cL_law 1949 = .ok (.lcmp, 1) := by decide +kernel
theorem dL_law_1950 : decode cL_law 1950 = .ok (.ifCond .eq 5, 3) := by decide +kernel
theorem dL_law_1953 : decode cL_law 1953 = .ok (.iconst 0, 1) := by decide +kernel
theorem dL_law_1954 : decode cL_law 1954 = .ok (.ireturn, 1) := by decide +kernel
theorem dL_law_1955 : decode cL_law 1955 = .ok (.goto 723, 3) := by decide +kernel
theorem dL_law_1958 : decode cL_law 1958 = .ok (.aload_n 1, 1) := by decide +kernel
theorem dL_law_1959 : decode cL_law 1959 = .ok (.aload_n 0, 1) := by decide +kernel
theorem dL_law_1960 : decode cL_law 1960 = .ok (.iload 4, 2) := by decide +kernel
theorem dL_law_1962 : decode cL_law 1962 = .ok (.iconst 1, 1) := by decide +kernel
theorem dL_law_1963 : decode cL_law 1963 = .ok (.iadd, 1) := by decide +kernel
theorem dL_law_1964 : decode cL_law 1964 = .ok (.iaload, 1) := by decide +kernel
theorem dL_law_1965 : decode cL_law 1965 = .ok (.aload_n 0, 1) := by decide +kernel
theorem dL_law_1966 : decode cL_law 1966 = .ok (.iload 4, 2) := by decide +kernel
theorem dL_law_1968 : decode cL_law 1968 = .ok (.iconst 2, 1) := by decide +kernel
theorem dL_law_1969 : decode cL_law 1969 = .ok (.iadd, 1) := by decide +kernel
theorem dL_law_1970 : decode cL_law 1970 = .ok (.iaload, 1) := by decide +kernel
theorem dL_law_1971 : decode cL_law 1971 = .ok (.aload_n 3, 1) := by decide +kernel
theorem dL_law_1972 : decode cL_law 1972 = .ok (.invokestatic 230, 3) := by decide +kernel
theorem dL_law_1975 : decode cL_law 1975 = .ok (.istore 5, 2) := by decide +kernel
theorem dL_law_1977 : decode cL_law 1977 = .ok (.aload_n 2, 1) := by decide +kernel
theorem dL_law_1978 : decode cL_law 1978 = .ok (.aload_n 0, 1) := by decide +kernel
theorem dL_law_1979 : decode cL_law 1979 = .ok (.iload 4, 2) := by decide +kernel
theorem dL_law_1981 : decode cL_law 1981 = .ok (.iconst 1, 1) := by decide +kernel
theorem dL_law_1982 : decode cL_law 1982 = .ok (.iadd, 1) := by decide +kernel
theorem dL_law_1983 : decode cL_law 1983 = .ok (.iaload, 1) := by decide +kernel
theorem dL_law_1984 : decode cL_law 1984 = .ok (.aload_n 0, 1) := by decide +kernel
theorem dL_law_1985 : decode cL_law 1985 = .ok (.iload 4, 2) := by decide +kernel
theorem dL_law_1987 : decode cL_law 1987 = .ok (.iconst 2, 1) := by decide +kernel
theorem dL_law_1988 : decode cL_law 1988 = .ok (.iadd, 1) := by decide +kernel
theorem dL_law_1989 : decode cL_law 1989 = .ok (.iaload, 1) := by decide +kernel
theorem dL_law_1990 : decode cL_law 1990 = .ok (.invokevirtual 232, 3) := by decide +kernel
theorem dL_law_1993 : decode cL_law 1993 = .ok (.istore 6, 2) := by decide +kernel
theorem dL_law_1995 : decode cL_law 1995 = .ok (.aload_n 2, 1) := by decide +kernel
theorem dL_law_1996 : decode cL_law 1996 = .ok (.invokevirtual 143, 3) := by decide +kernel
theorem dL_law_1999 : decode cL_law 1999 = .ok (.iload 5, 2) := by decide +kernel
theorem dL_law_2001 : decode cL_law 2001 = .ok (.if_icmp .eq 5, 3) := by decide +kernel
theorem dL_law_2004 : decode cL_law 2004 = .ok (.iconst 0, 1) := by decide +kernel
theorem dL_law_2005 : decode cL_law 2005 = .ok (.ireturn, 1) := by decide +kernel
theorem dL_law_2006 : decode cL_law 2006 = .ok (.iload 5, 2) := by decide +kernel
theorem dL_law_2008 : decode cL_law 2008 = .ok (.ifCond .ne 15, 3) := by decide +kernel
theorem dL_law_2011 : decode cL_law 2011 = .ok (.aload_n 3, 1) := by decide +kernel
theorem dL_law_2012 : decode cL_law 2012 = .ok (.iconst 0, 1) := by decide +kernel
theorem dL_law_2013 : decode cL_law 2013 = .ok (.laload, 1) := by decide +kernel
theorem dL_law_2014 : decode cL_law 2014 = .ok (.iload 6, 2) := by decide +kernel
theorem dL_law_2016 : decode cL_law 2016 = .ok (.i2l, 1) := by decide +kernel
theorem dL_law_2017 : decode cL_law 2017 = .ok (.lcmp, 1) := by decide +kernel
theorem dL_law_2018 : decode cL_law 2018 = .ok (.ifCond .eq 5, 3) := by decide +kernel
theorem dL_law_2021 : decode cL_law 2021 = .ok (.iconst 0, 1) := by decide +kernel
theorem dL_law_2022 : decode cL_law 2022 = .ok (.ireturn, 1) := by decide +kernel
theorem dL_law_2023 : decode cL_law 2023 = .ok (.goto 655, 3) := by decide +kernel
theorem dL_law_2026 : decode cL_law 2026 = .ok (.aload_n 1, 1) := by decide +kernel
theorem dL_law_2027 : decode cL_law 2027 = .ok (.aload_n 0, 1) := by decide +kernel
theorem dL_law_2028 : decode cL_law 2028 = .ok (.iload 4, 2) := by decide +kernel
theorem dL_law_2030 : decode cL_law 2030 = .ok (.iconst 1, 1) := by decide +kernel
theorem dL_law_2031 : decode cL_law 2031 = .ok (.iadd, 1) := by decide +kernel
theorem dL_law_2032 : decode cL_law 2032 = .ok (.iaload, 1) := by decide +kernel
theorem dL_law_2033 : decode cL_law 2033 = .ok (.aload_n 0, 1) := by decide +kernel
theorem dL_law_2034 : decode cL_law 2034 = .ok (.iload 4, 2) := by decide +kernel
theorem dL_law_2036 : decode cL_law 2036 = .ok (.iconst 2, 1) := by decide +kernel
theorem dL_law_2037 : decode cL_law 2037 = .ok (.iadd, 1) := by decide +kernel
theorem dL_law_2038 : decode cL_law 2038 = .ok (.iaload, 1) := by decide +kernel
theorem dL_law_2039 : decode cL_law 2039 = .ok (.aload_n 0, 1) := by decide +kernel
theorem dL_law_2040 : decode cL_law 2040 = .ok (.iload 4, 2) := by decide +kernel
theorem dL_law_2042 : decode cL_law 2042 = .ok (.iconst 3, 1) := by decide +kernel
theorem dL_law_2043 : decode cL_law 2043 = .ok (.iadd, 1) := by decide +kernel
theorem dL_law_2044 : decode cL_law 2044 = .ok (.iaload, 1) := by decide +kernel
theorem dL_law_2045 : decode cL_law 2045 = .ok (.aload_n 3, 1) := by decide +kernel
theorem dL_law_2046 : decode cL_law 2046 = .ok (.invokestatic 233, 3) := by decide +kernel
theorem dL_law_2049 : decode cL_law 2049 = .ok (.istore 5, 2) := by decide +kernel
theorem dL_law_2051 : decode cL_law 2051 = .ok (.aload_n 2, 1) := by decide +kernel
theorem dL_law_2052 : decode cL_law 2052 = .ok (.aload_n 0, 1) := by decide +kernel
theorem dL_law_2053 : decode cL_law 2053 = .ok (.iload 4, 2) := by decide +kernel
theorem dL_law_2055 : decode cL_law 2055 = .ok (.iconst 1, 1) := by decide +kernel
theorem dL_law_2056 : decode cL_law 2056 = .ok (.iadd, 1) := by decide +kernel
theorem dL_law_2057 : decode cL_law 2057 = .ok (.iaload, 1) := by decide +kernel
theorem dL_law_2058 : decode cL_law 2058 = .ok (.aload_n 0, 1) := by decide +kernel
theorem dL_law_2059 : decode cL_law 2059 = .ok (.iload 4, 2) := by decide +kernel
theorem dL_law_2061 : decode cL_law 2061 = .ok (.iconst 2, 1) := by decide +kernel
theorem dL_law_2062 : decode cL_law 2062 = .ok (.iadd, 1) := by decide +kernel
theorem dL_law_2063 : decode cL_law 2063 = .ok (.iaload, 1) := by decide +kernel
theorem dL_law_2064 : decode cL_law 2064 = .ok (.aload_n 0, 1) := by decide +kernel
theorem dL_law_2065 : decode cL_law 2065 = .ok (.iload 4, 2) := by decide +kernel
theorem dL_law_2067 : decode cL_law 2067 = .ok (.iconst 3, 1) := by decide +kernel
theorem dL_law_2068 : decode cL_law 2068 = .ok (.iadd, 1) := by decide +kernel
theorem dL_law_2069 : decode cL_law 2069 = .ok (.iaload, 1) := by decide +kernel
theorem dL_law_2070 : decode cL_law 2070 = .ok (.invokevirtual 235, 3) := by decide +kernel
theorem dL_law_2073 : decode cL_law 2073 = .ok (.lstore 6, 2) := by decide +kernel
theorem dL_law_2075 : decode cL_law 2075 = .ok (.aload_n 2, 1) := by decide +kernel
theorem dL_law_2076 : decode cL_law 2076 = .ok (.invokevirtual 143, 3) := by decide +kernel
theorem dL_law_2079 : decode cL_law 2079 = .ok (.iload 5, 2) := by decide +kernel
theorem dL_law_2081 : decode cL_law 2081 = .ok (.if_icmp .eq 5, 3) := by decide +kernel
theorem dL_law_2084 : decode cL_law 2084 = .ok (.iconst 0, 1) := by decide +kernel
theorem dL_law_2085 : decode cL_law 2085 = .ok (.ireturn, 1) := by decide +kernel
theorem dL_law_2086 : decode cL_law 2086 = .ok (.iload 5, 2) := by decide +kernel
theorem dL_law_2088 : decode cL_law 2088 = .ok (.ifCond .ne 14, 3) := by decide +kernel
theorem dL_law_2091 : decode cL_law 2091 = .ok (.aload_n 3, 1) := by decide +kernel
theorem dL_law_2092 : decode cL_law 2092 = .ok (.iconst 0, 1) := by decide +kernel
theorem dL_law_2093 : decode cL_law 2093 = .ok (.laload, 1) := by decide +kernel
theorem dL_law_2094 : decode cL_law 2094 = .ok (.lload 6, 2) := by decide +kernel
theorem dL_law_2096 : decode cL_law 2096 = .ok (.lcmp, 1) := by decide +kernel
theorem dL_law_2097 : decode cL_law 2097 = .ok (.ifCond .eq 5, 3) := by decide +kernel
theorem dL_law_2100 : decode cL_law 2100 = .ok (.iconst 0, 1) := by decide +kernel
theorem dL_law_2101 : decode cL_law 2101 = .ok (.ireturn, 1) := by decide +kernel
theorem dL_law_2102 : decode cL_law 2102 = .ok (.goto 576, 3) := by decide +kernel
theorem dL_law_2105 : decode cL_law 2105 = .ok (.aload_n 1, 1) := by decide +kernel
theorem dL_law_2106 : decode cL_law 2106 = .ok (.aload_n 0, 1) := by decide +kernel
theorem dL_law_2107 : decode cL_law 2107 = .ok (.iload 4, 2) := by decide +kernel
theorem dL_law_2109 : decode cL_law 2109 = .ok (.iconst 1, 1) := by decide +kernel
theorem dL_law_2110 : decode cL_law 2110 = .ok (.iadd, 1) := by decide +kernel
theorem dL_law_2111 : decode cL_law 2111 = .ok (.iaload, 1) := by decide +kernel
theorem dL_law_2112 : decode cL_law 2112 = .ok (.aload_n 0, 1) := by decide +kernel
theorem dL_law_2113 : decode cL_law 2113 = .ok (.iload 4, 2) := by decide +kernel
theorem dL_law_2115 : decode cL_law 2115 = .ok (.iconst 2, 1) := by decide +kernel
theorem dL_law_2116 : decode cL_law 2116 = .ok (.iadd, 1) := by decide +kernel
theorem dL_law_2117 : decode cL_law 2117 = .ok (.iaload, 1) := by decide +kernel
theorem dL_law_2118 : decode cL_law 2118 = .ok (.aload_n 0, 1) := by decide +kernel
theorem dL_law_2119 : decode cL_law 2119 = .ok (.iload 4, 2) := by decide +kernel
theorem dL_law_2121 : decode cL_law 2121 = .ok (.iconst 3, 1) := by decide +kernel
theorem dL_law_2122 : decode cL_law 2122 = .ok (.iadd, 1) := by decide +kernel
theorem dL_law_2123 : decode cL_law 2123 = .ok (.iaload, 1) := by decide +kernel
theorem dL_law_2124 : decode cL_law 2124 = .ok (.aload_n 3, 1) := by decide +kernel
theorem dL_law_2125 : decode cL_law 2125 = .ok (.invokestatic 236, 3) := by decide +kernel
theorem dL_law_2128 : decode cL_law 2128 = .ok (.istore 5, 2) := by decide +kernel
theorem dL_law_2130 : decode cL_law 2130 = .ok (.aload_n 2, 1) := by decide +kernel
theorem dL_law_2131 : decode cL_law 2131 = .ok (.aload_n 0, 1) := by decide +kernel
theorem dL_law_2132 : decode cL_law 2132 = .ok (.iload 4, 2) := by decide +kernel
theorem dL_law_2134 : decode cL_law 2134 = .ok (.iconst 1, 1) := by decide +kernel
theorem dL_law_2135 : decode cL_law 2135 = .ok (.iadd, 1) := by decide +kernel
theorem dL_law_2136 : decode cL_law 2136 = .ok (.iaload, 1) := by decide +kernel
theorem dL_law_2137 : decode cL_law 2137 = .ok (.aload_n 0, 1) := by decide +kernel
theorem dL_law_2138 : decode cL_law 2138 = .ok (.iload 4, 2) := by decide +kernel
theorem dL_law_2140 : decode cL_law 2140 = .ok (.iconst 2, 1) := by decide +kernel
theorem dL_law_2141 : decode cL_law 2141 = .ok (.iadd, 1) := by decide +kernel
theorem dL_law_2142 : decode cL_law 2142 = .ok (.iaload, 1) := by decide +kernel
theorem dL_law_2143 : decode cL_law 2143 = .ok (.aload_n 0, 1) := by decide +kernel
theorem dL_law_2144 : decode cL_law 2144 = .ok (.iload 4, 2) := by decide +kernel
theorem dL_law_2146 : decode cL_law 2146 = .ok (.iconst 3, 1) := by decide +kernel
theorem dL_law_2147 : decode cL_law 2147 = .ok (.iadd, 1) := by decide +kernel
theorem dL_law_2148 : decode cL_law 2148 = .ok (.iaload, 1) := by decide +kernel
theorem dL_law_2149 : decode cL_law 2149 = .ok (.invokevirtual 238, 3) := by decide +kernel
theorem dL_law_2152 : decode cL_law 2152 = .ok (.istore 6, 2) := by decide +kernel
theorem dL_law_2154 : decode cL_law 2154 = .ok (.aload_n 2, 1) := by decide +kernel
theorem dL_law_2155 : decode cL_law 2155 = .ok (.invokevirtual 143, 3) := by decide +kernel
theorem dL_law_2158 : decode cL_law 2158 = .ok (.iload 5, 2) := by decide +kernel
theorem dL_law_2160 : decode cL_law 2160 = .ok (.if_icmp .eq 5, 3) := by decide +kernel
theorem dL_law_2163 : decode cL_law 2163 = .ok (.iconst 0, 1) := by decide +kernel
theorem dL_law_2164 : decode cL_law 2164 = .ok (.ireturn, 1) := by decide +kernel
theorem dL_law_2165 : decode cL_law 2165 = .ok (.iload 5, 2) := by decide +kernel
theorem dL_law_2167 : decode cL_law 2167 = .ok (.ifCond .ne 15, 3) := by decide +kernel
theorem dL_law_2170 : decode cL_law 2170 = .ok (.aload_n 3, 1) := by decide +kernel
theorem dL_law_2171 : decode cL_law 2171 = .ok (.iconst 0, 1) := by decide +kernel
theorem dL_law_2172 : decode cL_law 2172 = .ok (.laload, 1) := by decide +kernel
theorem dL_law_2173 : decode cL_law 2173 = .ok (.iload 6, 2) := by decide +kernel
theorem dL_law_2175 : decode cL_law 2175 = .ok (.i2l, 1) := by decide +kernel
theorem dL_law_2176 : decode cL_law 2176 = .ok (.lcmp, 1) := by decide +kernel
theorem dL_law_2177 : decode cL_law 2177 = .ok (.ifCond .eq 5, 3) := by decide +kernel
theorem dL_law_2180 : decode cL_law 2180 = .ok (.iconst 0, 1) := by decide +kernel
theorem dL_law_2181 : decode cL_law 2181 = .ok (.ireturn, 1) := by decide +kernel
theorem dL_law_2182 : decode cL_law 2182 = .ok (.goto 496, 3) := by decide +kernel
theorem dL_law_2185 : decode cL_law 2185 = .ok (.aload_n 1, 1) := by decide +kernel
theorem dL_law_2186 : decode cL_law 2186 = .ok (.invokevirtual 239, 3) := by decide +kernel
theorem dL_law_2189 : decode cL_law 2189 = .ok (.aload_n 2, 1) := by decide +kernel
theorem dL_law_2190 : decode cL_law 2190 = .ok (.invokevirtual 242, 3) := by decide +kernel
theorem dL_law_2193 : decode cL_law 2193 = .ok (.if_icmp .eq 485, 3) := by decide +kernel
theorem dL_law_2196 : decode cL_law 2196 = .ok (.iconst 0, 1) := by decide +kernel
theorem dL_law_2197 : decode cL_law 2197 = .ok (.ireturn, 1) := by decide +kernel
theorem dL_law_2198 : decode cL_law 2198 = .ok (.aload_n 1, 1) := by decide +kernel
theorem dL_law_2199 : decode cL_law 2199 = .ok (.aload_n 0, 1) := by decide +kernel
theorem dL_law_2200 : decode cL_law 2200 = .ok (.iload 4, 2) := by decide +kernel
theorem dL_law_2202 : decode cL_law 2202 = .ok (.iconst 1, 1) := by decide +kernel
theorem dL_law_2203 : decode cL_law 2203 = .ok (.iadd, 1) := by decide +kernel
theorem dL_law_2204 : decode cL_law 2204 = .ok (.iaload, 1) := by decide +kernel
theorem dL_law_2205 : decode cL_law 2205 = .ok (.aload_n 0, 1) := by decide +kernel
theorem dL_law_2206 : decode cL_law 2206 = .ok (.iload 4, 2) := by decide +kernel
theorem dL_law_2208 : decode cL_law 2208 = .ok (.iconst 2, 1) := by decide +kernel
theorem dL_law_2209 : decode cL_law 2209 = .ok (.iadd, 1) := by decide +kernel
theorem dL_law_2210 : decode cL_law 2210 = .ok (.iaload, 1) := by decide +kernel
theorem dL_law_2211 : decode cL_law 2211 = .ok (.invokestatic 243, 3) := by decide +kernel
theorem dL_law_2214 : decode cL_law 2214 = .ok (.istore 5, 2) := by decide +kernel
theorem dL_law_2216 : decode cL_law 2216 = .ok (.aload_n 2, 1) := by decide +kernel
theorem dL_law_2217 : decode cL_law 2217 = .ok (.aload_n 0, 1) := by decide +kernel
theorem dL_law_2218 : decode cL_law 2218 = .ok (.iload 4, 2) := by decide +kernel
theorem dL_law_2220 : decode cL_law 2220 = .ok (.iconst 1, 1) := by decide +kernel
theorem dL_law_2221 : decode cL_law 2221 = .ok (.iadd, 1) := by decide +kernel
theorem dL_law_2222 : decode cL_law 2222 = .ok (.iaload, 1) := by decide +kernel
theorem dL_law_2223 : decode cL_law 2223 = .ok (.aload_n 0, 1) := by decide +kernel
theorem dL_law_2224 : decode cL_law 2224 = .ok (.iload 4, 2) := by decide +kernel
theorem dL_law_2226 : decode cL_law 2226 = .ok (.iconst 2, 1) := by decide +kernel
theorem dL_law_2227 : decode cL_law 2227 = .ok (.iadd, 1) := by decide +kernel
theorem dL_law_2228 : decode cL_law 2228 = .ok (.iaload, 1) := by decide +kernel
theorem dL_law_2229 : decode cL_law 2229 = .ok (.invokevirtual 246, 3) := by decide +kernel
theorem dL_law_2232 : decode cL_law 2232 = .ok (.aload_n 2, 1) := by decide +kernel
theorem dL_law_2233 : decode cL_law 2233 = .ok (.invokevirtual 143, 3) := by decide +kernel
theorem dL_law_2236 : decode cL_law 2236 = .ok (.iload 5, 2) := by decide +kernel
theorem dL_law_2238 : decode cL_law 2238 = .ok (.if_icmp .eq 5, 3) := by decide +kernel
theorem dL_law_2241 : decode cL_law 2241 = .ok (.iconst 0, 1) := by decide +kernel
theorem dL_law_2242 : decode cL_law 2242 = .ok (.ireturn, 1) := by decide +kernel
theorem dL_law_2243 : decode cL_law 2243 = .ok (.goto 435, 3) := by decide +kernel
theorem dL_law_2246 : decode cL_law 2246 = .ok (.aload_n 1, 1) := by decide +kernel
theorem dL_law_2247 : decode cL_law 2247 = .ok (.aload_n 0, 1) := by decide +kernel
theorem dL_law_2248 : decode cL_law 2248 = .ok (.iload 4, 2) := by decide +kernel
theorem dL_law_2250 : decode cL_law 2250 = .ok (.iconst 1, 1) := by decide +kernel
theorem dL_law_2251 : decode cL_law 2251 = .ok (.iadd, 1) := by decide +kernel
theorem dL_law_2252 : decode cL_law 2252 = .ok (.iaload, 1) := by decide +kernel
theorem dL_law_2253 : decode cL_law 2253 = .ok (.aload_n 0, 1) := by decide +kernel
theorem dL_law_2254 : decode cL_law 2254 = .ok (.iload 4, 2) := by decide +kernel
theorem dL_law_2256 : decode cL_law 2256 = .ok (.iconst 2, 1) := by decide +kernel
theorem dL_law_2257 : decode cL_law 2257 = .ok (.iadd, 1) := by decide +kernel
theorem dL_law_2258 : decode cL_law 2258 = .ok (.iaload, 1) := by decide +kernel
theorem dL_law_2259 : decode cL_law 2259 = .ok (.aload_n 0, 1) := by decide +kernel
theorem dL_law_2260 : decode cL_law 2260 = .ok (.iload 4, 2) := by decide +kernel
theorem dL_law_2262 : decode cL_law 2262 = .ok (.iconst 3, 1) := by decide +kernel
theorem dL_law_2263 : decode cL_law 2263 = .ok (.iadd, 1) := by decide +kernel
theorem dL_law_2264 : decode cL_law 2264 = .ok (.iaload, 1) := by decide +kernel
theorem dL_law_2265 : decode cL_law 2265 = .ok (.aload_n 3, 1) := by decide +kernel
theorem dL_law_2266 : decode cL_law 2266 = .ok (.invokestatic 247, 3) := by decide +kernel
theorem dL_law_2269 : decode cL_law 2269 = .ok (.istore 5, 2) := by decide +kernel
theorem dL_law_2271 : decode cL_law 2271 = .ok (.aload_n 2, 1) := by decide +kernel
theorem dL_law_2272 : decode cL_law 2272 = .ok (.aload_n 0, 1) := by decide +kernel
theorem dL_law_2273 : decode cL_law 2273 = .ok (.iload 4, 2) := by decide +kernel
theorem dL_law_2275 : decode cL_law 2275 = .ok (.iconst 1, 1) := by decide +kernel
theorem dL_law_2276 : decode cL_law 2276 = .ok (.iadd, 1) := by decide +kernel
theorem dL_law_2277 : decode cL_law 2277 = .ok (.iaload, 1) := by decide +kernel
theorem dL_law_2278 : decode cL_law 2278 = .ok (.aload_n 0, 1) := by decide +kernel
theorem dL_law_2279 : decode cL_law 2279 = .ok (.iload 4, 2) := by decide +kernel
theorem dL_law_2281 : decode cL_law 2281 = .ok (.iconst 2, 1) := by decide +kernel
theorem dL_law_2282 : decode cL_law 2282 = .ok (.iadd, 1) := by decide +kernel
theorem dL_law_2283 : decode cL_law 2283 = .ok (.iaload, 1) := by decide +kernel
theorem dL_law_2284 : decode cL_law 2284 = .ok (.aload_n 0, 1) := by decide +kernel
theorem dL_law_2285 : decode cL_law 2285 = .ok (.iload 4, 2) := by decide +kernel
theorem dL_law_2287 : decode cL_law 2287 = .ok (.iconst 3, 1) := by decide +kernel
theorem dL_law_2288 : decode cL_law 2288 = .ok (.iadd, 1) := by decide +kernel
theorem dL_law_2289 : decode cL_law 2289 = .ok (.iaload, 1) := by decide +kernel
theorem dL_law_2290 : decode cL_law 2290 = .ok (.invokevirtual 249, 3) := by decide +kernel
theorem dL_law_2293 : decode cL_law 2293 = .ok (.istore 6, 2) := by decide +kernel
theorem dL_law_2295 : decode cL_law 2295 = .ok (.aload_n 2, 1) := by decide +kernel
theorem dL_law_2296 : decode cL_law 2296 = .ok (.invokevirtual 143, 3) := by decide +kernel
theorem dL_law_2299 : decode cL_law 2299 = .ok (.iload 5, 2) := by decide +kernel
theorem dL_law_2301 : decode cL_law 2301 = .ok (.if_icmp .eq 5, 3) := by decide +kernel
theorem dL_law_2304 : decode cL_law 2304 = .ok (.iconst 0, 1) := by decide +kernel
theorem dL_law_2305 : decode cL_law 2305 = .ok (.ireturn, 1) := by decide +kernel
theorem dL_law_2306 : decode cL_law 2306 = .ok (.iload 5, 2) := by decide +kernel
theorem dL_law_2308 : decode cL_law 2308 = .ok (.ifCond .ne 15, 3) := by decide +kernel
theorem dL_law_2311 : decode cL_law 2311 = .ok (.aload_n 3, 1) := by decide +kernel
theorem dL_law_2312 : decode cL_law 2312 = .ok (.iconst 0, 1) := by decide +kernel
theorem dL_law_2313 : decode cL_law 2313 = .ok (.laload, 1) := by decide +kernel
theorem dL_law_2314 : decode cL_law 2314 = .ok (.iload 6, 2) := by decide +kernel
theorem dL_law_2316 : decode cL_law 2316 = .ok (.i2l, 1) := by decide +kernel
theorem dL_law_2317 : decode cL_law 2317 = .ok (.lcmp, 1) := by decide +kernel
theorem dL_law_2318 : decode cL_law 2318 = .ok (.ifCond .eq 5, 3) := by decide +kernel
theorem dL_law_2321 : decode cL_law 2321 = .ok (.iconst 0, 1) := by decide +kernel
theorem dL_law_2322 : decode cL_law 2322 = .ok (.ireturn, 1) := by decide +kernel
theorem dL_law_2323 : decode cL_law 2323 = .ok (.goto 355, 3) := by decide +kernel
theorem dL_law_2326 : decode cL_law 2326 = .ok (.aload_n 1, 1) := by decide +kernel
theorem dL_law_2327 : decode cL_law 2327 = .ok (.aload_n 0, 1) := by decide +kernel
theorem dL_law_2328 : decode cL_law 2328 = .ok (.iload 4, 2) := by decide +kernel
theorem dL_law_2330 : decode cL_law 2330 = .ok (.iconst 1, 1) := by decide +kernel
theorem dL_law_2331 : decode cL_law 2331 = .ok (.iadd, 1) := by decide +kernel
theorem dL_law_2332 : decode cL_law 2332 = .ok (.iaload, 1) := by decide +kernel
theorem dL_law_2333 : decode cL_law 2333 = .ok (.aload_n 0, 1) := by decide +kernel
theorem dL_law_2334 : decode cL_law 2334 = .ok (.iload 4, 2) := by decide +kernel
theorem dL_law_2336 : decode cL_law 2336 = .ok (.iconst 2, 1) := by decide +kernel
theorem dL_law_2337 : decode cL_law 2337 = .ok (.iadd, 1) := by decide +kernel
theorem dL_law_2338 : decode cL_law 2338 = .ok (.iaload, 1) := by decide +kernel
theorem dL_law_2339 : decode cL_law 2339 = .ok (.aload_n 3, 1) := by decide +kernel
theorem dL_law_2340 : decode cL_law 2340 = .ok (.invokestatic 250, 3) := by decide +kernel
theorem dL_law_2343 : decode cL_law 2343 = .ok (.istore 5, 2) := by decide +kernel
theorem dL_law_2345 : decode cL_law 2345 = .ok (.aload_n 2, 1) := by decide +kernel
theorem dL_law_2346 : decode cL_law 2346 = .ok (.aload_n 0, 1) := by decide +kernel
theorem dL_law_2347 : decode cL_law 2347 = .ok (.iload 4, 2) := by decide +kernel
theorem dL_law_2349 : decode cL_law 2349 = .ok (.iconst 1, 1) := by decide +kernel
theorem dL_law_2350 : decode cL_law 2350 = .ok (.iadd, 1) := by decide +kernel
theorem dL_law_2351 : decode cL_law 2351 = .ok (.iaload, 1) := by decide +kernel
theorem dL_law_2352 : decode cL_law 2352 = .ok (.aload_n 0, 1) := by decide +kernel
theorem dL_law_2353 : decode cL_law 2353 = .ok (.iload 4, 2) := by decide +kernel
theorem dL_law_2355 : decode cL_law 2355 = .ok (.iconst 2, 1) := by decide +kernel
theorem dL_law_2356 : decode cL_law 2356 = .ok (.iadd, 1) := by decide +kernel
theorem dL_law_2357 : decode cL_law 2357 = .ok (.iaload, 1) := by decide +kernel
theorem dL_law_2358 : decode cL_law 2358 = .ok (.invokevirtual 252, 3) := by decide +kernel
theorem dL_law_2361 : decode cL_law 2361 = .ok (.istore 6, 2) := by decide +kernel
theorem dL_law_2363 : decode cL_law 2363 = .ok (.aload_n 2, 1) := by decide +kernel
theorem dL_law_2364 : decode cL_law 2364 = .ok (.invokevirtual 143, 3) := by decide +kernel
theorem dL_law_2367 : decode cL_law 2367 = .ok (.iload 5, 2) := by decide +kernel
theorem dL_law_2369 : decode cL_law 2369 = .ok (.if_icmp .eq 5, 3) := by decide +kernel
theorem dL_law_2372 : decode cL_law 2372 = .ok (.iconst 0, 1) := by decide +kernel
theorem dL_law_2373 : decode cL_law 2373 = .ok (.ireturn, 1) := by decide +kernel
theorem dL_law_2374 : decode cL_law 2374 = .ok (.iload 5, 2) := by decide +kernel
theorem dL_law_2376 : decode cL_law 2376 = .ok (.ifCond .ne 15, 3) := by decide +kernel
theorem dL_law_2379 : decode cL_law 2379 = .ok (.aload_n 3, 1) := by decide +kernel
theorem dL_law_2380 : decode cL_law 2380 = .ok (.iconst 0, 1) := by decide +kernel
theorem dL_law_2381 : decode cL_law 2381 = .ok (.laload, 1) := by decide +kernel
theorem dL_law_2382 : decode cL_law 2382 = .ok (.iload 6, 2) := by decide +kernel
theorem dL_law_2384 : decode cL_law 2384 = .ok (.i2l, 1) := by decide +kernel
theorem dL_law_2385 : decode cL_law 2385 = .ok (.lcmp, 1) := by decide +kernel
theorem dL_law_2386 : decode cL_law 2386 = .ok (.ifCond .eq 5, 3) := by decide +kernel
theorem dL_law_2389 : decode cL_law 2389 = .ok (.iconst 0, 1) := by decide +kernel
theorem dL_law_2390 : decode cL_law 2390 = .ok (.ireturn, 1) := by decide +kernel
theorem dL_law_2391 : decode cL_law 2391 = .ok (.goto 287, 3) := by decide +kernel
theorem dL_law_2394 : decode cL_law 2394 = .ok (.aload_n 1, 1) := by decide +kernel
theorem dL_law_2395 : decode cL_law 2395 = .ok (.aload_n 0, 1) := by decide +kernel
theorem dL_law_2396 : decode cL_law 2396 = .ok (.iload 4, 2) := by decide +kernel
theorem dL_law_2398 : decode cL_law 2398 = .ok (.iconst 1, 1) := by decide +kernel
theorem dL_law_2399 : decode cL_law 2399 = .ok (.iadd, 1) := by decide +kernel
theorem dL_law_2400 : decode cL_law 2400 = .ok (.iaload, 1) := by decide +kernel
theorem dL_law_2401 : decode cL_law 2401 = .ok (.aload_n 0, 1) := by decide +kernel
theorem dL_law_2402 : decode cL_law 2402 = .ok (.iload 4, 2) := by decide +kernel
theorem dL_law_2404 : decode cL_law 2404 = .ok (.iconst 2, 1) := by decide +kernel
theorem dL_law_2405 : decode cL_law 2405 = .ok (.iadd, 1) := by decide +kernel
theorem dL_law_2406 : decode cL_law 2406 = .ok (.iaload, 1) := by decide +kernel
theorem dL_law_2407 : decode cL_law 2407 = .ok (.aload_n 3, 1) := by decide +kernel
theorem dL_law_2408 : decode cL_law 2408 = .ok (.invokestatic 253, 3) := by decide +kernel
theorem dL_law_2411 : decode cL_law 2411 = .ok (.istore 5, 2) := by decide +kernel
theorem dL_law_2413 : decode cL_law 2413 = .ok (.aload_n 2, 1) := by decide +kernel
theorem dL_law_2414 : decode cL_law 2414 = .ok (.aload_n 0, 1) := by decide +kernel
theorem dL_law_2415 : decode cL_law 2415 = .ok (.iload 4, 2) := by decide +kernel
theorem dL_law_2417 : decode cL_law 2417 = .ok (.iconst 1, 1) := by decide +kernel
theorem dL_law_2418 : decode cL_law 2418 = .ok (.iadd, 1) := by decide +kernel
theorem dL_law_2419 : decode cL_law 2419 = .ok (.iaload, 1) := by decide +kernel
theorem dL_law_2420 : decode cL_law 2420 = .ok (.aload_n 0, 1) := by decide +kernel
theorem dL_law_2421 : decode cL_law 2421 = .ok (.iload 4, 2) := by decide +kernel
theorem dL_law_2423 : decode cL_law 2423 = .ok (.iconst 2, 1) := by decide +kernel
theorem dL_law_2424 : decode cL_law 2424 = .ok (.iadd, 1) := by decide +kernel
theorem dL_law_2425 : decode cL_law 2425 = .ok (.iaload, 1) := by decide +kernel
theorem dL_law_2426 : decode cL_law 2426 = .ok (.invokevirtual 255, 3) := by decide +kernel
theorem dL_law_2429 : decode cL_law 2429 = .ok (.istore 6, 2) := by decide +kernel
theorem dL_law_2431 : decode cL_law 2431 = .ok (.aload_n 2, 1) := by decide +kernel
theorem dL_law_2432 : decode cL_law 2432 = .ok (.invokevirtual 143, 3) := by decide +kernel
theorem dL_law_2435 : decode cL_law 2435 = .ok (.iload 5, 2) := by decide +kernel
theorem dL_law_2437 : decode cL_law 2437 = .ok (.if_icmp .eq 5, 3) := by decide +kernel
theorem dL_law_2440 : decode cL_law 2440 = .ok (.iconst 0, 1) := by decide +kernel
theorem dL_law_2441 : decode cL_law 2441 = .ok (.ireturn, 1) := by decide +kernel
theorem dL_law_2442 : decode cL_law 2442 = .ok (.iload 5, 2) := by decide +kernel
theorem dL_law_2444 : decode cL_law 2444 = .ok (.ifCond .ne 15, 3) := by decide +kernel
theorem dL_law_2447 : decode cL_law 2447 = .ok (.aload_n 3, 1) := by decide +kernel
theorem dL_law_2448 : decode cL_law 2448 = .ok (.iconst 0, 1) := by decide +kernel
theorem dL_law_2449 : decode cL_law 2449 = .ok (.laload, 1) := by decide +kernel
theorem dL_law_2450 : decode cL_law 2450 = .ok (.iload 6, 2) := by decide +kernel
theorem dL_law_2452 : decode cL_law 2452 = .ok (.i2l, 1) := by decide +kernel
theorem dL_law_2453 : decode cL_law 2453 = .ok (.lcmp, 1) := by decide +kernel
theorem dL_law_2454 : decode cL_law 2454 = .ok (.ifCond .eq 5, 3) := by decide +kernel
theorem dL_law_2457 : decode cL_law 2457 = .ok (.iconst 0, 1) := by decide +kernel
theorem dL_law_2458 : decode cL_law 2458 = .ok (.ireturn, 1) := by decide +kernel
theorem dL_law_2459 : decode cL_law 2459 = .ok (.goto 219, 3) := by decide +kernel
theorem dL_law_2462 : decode cL_law 2462 = .ok (.aload_n 1, 1) := by decide +kernel
theorem dL_law_2463 : decode cL_law 2463 = .ok (.aload_n 0, 1) := by decide +kernel
theorem dL_law_2464 : decode cL_law 2464 = .ok (.iload 4, 2) := by decide +kernel
theorem dL_law_2466 : decode cL_law 2466 = .ok (.iconst 1, 1) := by decide +kernel
theorem dL_law_2467 : decode cL_law 2467 = .ok (.iadd, 1) := by decide +kernel
theorem dL_law_2468 : decode cL_law 2468 = .ok (.iaload, 1) := by decide +kernel
theorem dL_law_2469 : decode cL_law 2469 = .ok (.aload_n 3, 1) := by decide +kernel
theorem dL_law_2470 : decode cL_law 2470 = .ok (.invokestatic 256, 3) := by decide +kernel
theorem dL_law_2473 : decode cL_law 2473 = .ok (.istore 5, 2) := by decide +kernel
theorem dL_law_2475 : decode cL_law 2475 = .ok (.aload_n 2, 1) := by decide +kernel
theorem dL_law_2476 : decode cL_law 2476 = .ok (.aload_n 0, 1) := by decide +kernel
theorem dL_law_2477 : decode cL_law 2477 = .ok (.iload 4, 2) := by decide +kernel
theorem dL_law_2479 : decode cL_law 2479 = .ok (.iconst 1, 1) := by decide +kernel
theorem dL_law_2480 : decode cL_law 2480 = .ok (.iadd, 1) := by decide +kernel
theorem dL_law_2481 : decode cL_law 2481 = .ok (.iaload, 1) := by decide +kernel
theorem dL_law_2482 : decode cL_law 2482 = .ok (.invokevirtual 258, 3) := by decide +kernel
theorem dL_law_2485 : decode cL_law 2485 = .ok (.istore 6, 2) := by decide +kernel
theorem dL_law_2487 : decode cL_law 2487 = .ok (.aload_n 2, 1) := by decide +kernel
theorem dL_law_2488 : decode cL_law 2488 = .ok (.invokevirtual 143, 3) := by decide +kernel
theorem dL_law_2491 : decode cL_law 2491 = .ok (.iload 5, 2) := by decide +kernel
theorem dL_law_2493 : decode cL_law 2493 = .ok (.if_icmp .eq 5, 3) := by decide +kernel
theorem dL_law_2496 : decode cL_law 2496 = .ok (.iconst 0, 1) := by decide +kernel
theorem dL_law_2497 : decode cL_law 2497 = .ok (.ireturn, 1) := by decide +kernel
theorem dL_law_2498 : decode cL_law 2498 = .ok (.iload 5, 2) := by decide +kernel
theorem dL_law_2500 : decode cL_law 2500 = .ok (.ifCond .ne 15, 3) := by decide +kernel
theorem dL_law_2503 : decode cL_law 2503 = .ok (.aload_n 3, 1) := by decide +kernel
theorem dL_law_2504 : decode cL_law 2504 = .ok (.iconst 0, 1) := by decide +kernel
theorem dL_law_2505 : decode cL_law 2505 = .ok (.laload, 1) := by decide +kernel
theorem dL_law_2506 : decode cL_law 2506 = .ok (.iload 6, 2) := by decide +kernel
theorem dL_law_2508 : decode cL_law 2508 = .ok (.i2l, 1) := by decide +kernel
theorem dL_law_2509 : decode cL_law 2509 = .ok (.lcmp, 1) := by decide +kernel
theorem dL_law_2510 : decode cL_law 2510 = .ok (.ifCond .eq 5, 3) := by decide +kernel
theorem dL_law_2513 : decode cL_law 2513 = .ok (.iconst 0, 1) := by decide +kernel
theorem dL_law_2514 : decode cL_law 2514 = .ok (.ireturn, 1) := by decide +kernel
theorem dL_law_2515 : decode cL_law 2515 = .ok (.goto 163, 3) := by decide +kernel
theorem dL_law_2518 : decode cL_law 2518 = .ok (.aload_n 1, 1) := by decide +kernel
theorem dL_law_2519 : decode cL_law 2519 = .ok (.aload_n 0, 1) := by decide +kernel
theorem dL_law_2520 : decode cL_law 2520 = .ok (.iload 4, 2) := by decide +kernel
theorem dL_law_2522 : decode cL_law 2522 = .ok (.iconst 1, 1) := by decide +kernel
theorem dL_law_2523 : decode cL_law 2523 = .ok (.iadd, 1) := by decide +kernel
theorem dL_law_2524 : decode cL_law 2524 = .ok (.iaload, 1) := by decide +kernel
theorem dL_law_2525 : decode cL_law 2525 = .ok (.aload_n 0, 1) := by decide +kernel
theorem dL_law_2526 : decode cL_law 2526 = .ok (.iload 4, 2) := by decide +kernel
theorem dL_law_2528 : decode cL_law 2528 = .ok (.iconst 2, 1) := by decide +kernel
theorem dL_law_2529 : decode cL_law 2529 = .ok (.iadd, 1) := by decide +kernel
theorem dL_law_2530 : decode cL_law 2530 = .ok (.iaload, 1) := by decide +kernel
theorem dL_law_2531 : decode cL_law 2531 = .ok (.aload_n 0, 1) := by decide +kernel
theorem dL_law_2532 : decode cL_law 2532 = .ok (.iload 4, 2) := by decide +kernel
theorem dL_law_2534 : decode cL_law 2534 = .ok (.iconst 3, 1) := by decide +kernel
theorem dL_law_2535 : decode cL_law 2535 = .ok (.iadd, 1) := by decide +kernel
theorem dL_law_2536 : decode cL_law 2536 = .ok (.iaload, 1) := by decide +kernel
theorem dL_law_2537 : decode cL_law 2537 = .ok (.aload_n 3, 1) := by decide +kernel
theorem dL_law_2538 : decode cL_law 2538 = .ok (.invokestatic 259, 3) := by decide +kernel
theorem dL_law_2541 : decode cL_law 2541 = .ok (.istore 5, 2) := by decide +kernel
theorem dL_law_2543 : decode cL_law 2543 = .ok (.aload_n 2, 1) := by decide +kernel
theorem dL_law_2544 : decode cL_law 2544 = .ok (.aload_n 0, 1) := by decide +kernel
theorem dL_law_2545 : decode cL_law 2545 = .ok (.iload 4, 2) := by decide +kernel
theorem dL_law_2547 : decode cL_law 2547 = .ok (.iconst 1, 1) := by decide +kernel
theorem dL_law_2548 : decode cL_law 2548 = .ok (.iadd, 1) := by decide +kernel
theorem dL_law_2549 : decode cL_law 2549 = .ok (.iaload, 1) := by decide +kernel
theorem dL_law_2550 : decode cL_law 2550 = .ok (.aload_n 0, 1) := by decide +kernel
theorem dL_law_2551 : decode cL_law 2551 = .ok (.iload 4, 2) := by decide +kernel
theorem dL_law_2553 : decode cL_law 2553 = .ok (.iconst 2, 1) := by decide +kernel
theorem dL_law_2554 : decode cL_law 2554 = .ok (.iadd, 1) := by decide +kernel
theorem dL_law_2555 : decode cL_law 2555 = .ok (.iaload, 1) := by decide +kernel
theorem dL_law_2556 : decode cL_law 2556 = .ok (.aload_n 0, 1) := by decide +kernel
theorem dL_law_2557 : decode cL_law 2557 = .ok (.iload 4, 2) := by decide +kernel
theorem dL_law_2559 : decode cL_law 2559 = .ok (.iconst 3, 1) := by decide +kernel
theorem dL_law_2560 : decode cL_law 2560 = .ok (.iadd, 1) := by decide +kernel
theorem dL_law_2561 : decode cL_law 2561 = .ok (.iaload, 1) := by decide +kernel
theorem dL_law_2562 : decode cL_law 2562 = .ok (.invokevirtual 261, 3) := by decide +kernel
theorem dL_law_2565 : decode cL_law 2565 = .ok (.istore 6, 2) := by decide +kernel
theorem dL_law_2567 : decode cL_law 2567 = .ok (.aload_n 2, 1) := by decide +kernel
theorem dL_law_2568 : decode cL_law 2568 = .ok (.invokevirtual 143, 3) := by decide +kernel
theorem dL_law_2571 : decode cL_law 2571 = .ok (.iload 5, 2) := by decide +kernel
theorem dL_law_2573 : decode cL_law 2573 = .ok (.if_icmp .eq 5, 3) := by decide +kernel
theorem dL_law_2576 : decode cL_law 2576 = .ok (.iconst 0, 1) := by decide +kernel
theorem dL_law_2577 : decode cL_law 2577 = .ok (.ireturn, 1) := by decide +kernel
theorem dL_law_2578 : decode cL_law 2578 = .ok (.iload 5, 2) := by decide +kernel
theorem dL_law_2580 : decode cL_law 2580 = .ok (.ifCond .ne 15, 3) := by decide +kernel
theorem dL_law_2583 : decode cL_law 2583 = .ok (.aload_n 3, 1) := by decide +kernel
theorem dL_law_2584 : decode cL_law 2584 = .ok (.iconst 0, 1) := by decide +kernel
theorem dL_law_2585 : decode cL_law 2585 = .ok (.laload, 1) := by decide +kernel
theorem dL_law_2586 : decode cL_law 2586 = .ok (.iload 6, 2) := by decide +kernel
theorem dL_law_2588 : decode cL_law 2588 = .ok (.i2l, 1) := by decide +kernel
theorem dL_law_2589 : decode cL_law 2589 = .ok (.lcmp, 1) := by decide +kernel
theorem dL_law_2590 : decode cL_law 2590 = .ok (.ifCond .eq 5, 3) := by decide +kernel
theorem dL_law_2593 : decode cL_law 2593 = .ok (.iconst 0, 1) := by decide +kernel
theorem dL_law_2594 : decode cL_law 2594 = .ok (.ireturn, 1) := by decide +kernel
theorem dL_law_2595 : decode cL_law 2595 = .ok (.goto 83, 3) := by decide +kernel
theorem dL_law_2598 : decode cL_law 2598 = .ok (.aload_n 1, 1) := by decide +kernel
theorem dL_law_2599 : decode cL_law 2599 = .ok (.aload_n 0, 1) := by decide +kernel
theorem dL_law_2600 : decode cL_law 2600 = .ok (.iload 4, 2) := by decide +kernel
theorem dL_law_2602 : decode cL_law 2602 = .ok (.iconst 1, 1) := by decide +kernel
theorem dL_law_2603 : decode cL_law 2603 = .ok (.iadd, 1) := by decide +kernel
theorem dL_law_2604 : decode cL_law 2604 = .ok (.iaload, 1) := by decide +kernel
theorem dL_law_2605 : decode cL_law 2605 = .ok (.aload_n 0, 1) := by decide +kernel
theorem dL_law_2606 : decode cL_law 2606 = .ok (.iload 4, 2) := by decide +kernel
theorem dL_law_2608 : decode cL_law 2608 = .ok (.iconst 2, 1) := by decide +kernel
theorem dL_law_2609 : decode cL_law 2609 = .ok (.iadd, 1) := by decide +kernel
theorem dL_law_2610 : decode cL_law 2610 = .ok (.iaload, 1) := by decide +kernel
theorem dL_law_2611 : decode cL_law 2611 = .ok (.aload_n 0, 1) := by decide +kernel
theorem dL_law_2612 : decode cL_law 2612 = .ok (.iload 4, 2) := by decide +kernel
theorem dL_law_2614 : decode cL_law 2614 = .ok (.iconst 3, 1) := by decide +kernel
theorem dL_law_2615 : decode cL_law 2615 = .ok (.iadd, 1) := by decide +kernel
theorem dL_law_2616 : decode cL_law 2616 = .ok (.iaload, 1) := by decide +kernel
theorem dL_law_2617 : decode cL_law 2617 = .ok (.aload_n 3, 1) := by decide +kernel
theorem dL_law_2618 : decode cL_law 2618 = .ok (.invokestatic 262, 3) := by decide +kernel
theorem dL_law_2621 : decode cL_law 2621 = .ok (.istore 5, 2) := by decide +kernel
theorem dL_law_2623 : decode cL_law 2623 = .ok (.aload_n 2, 1) := by decide +kernel
theorem dL_law_2624 : decode cL_law 2624 = .ok (.aload_n 0, 1) := by decide +kernel
theorem dL_law_2625 : decode cL_law 2625 = .ok (.iload 4, 2) := by decide +kernel
theorem dL_law_2627 : decode cL_law 2627 = .ok (.iconst 1, 1) := by decide +kernel
theorem dL_law_2628 : decode cL_law 2628 = .ok (.iadd, 1) := by decide +kernel
theorem dL_law_2629 : decode cL_law 2629 = .ok (.iaload, 1) := by decide +kernel
theorem dL_law_2630 : decode cL_law 2630 = .ok (.aload_n 0, 1) := by decide +kernel
theorem dL_law_2631 : decode cL_law 2631 = .ok (.iload 4, 2) := by decide +kernel
theorem dL_law_2633 : decode cL_law 2633 = .ok (.iconst 2, 1) := by decide +kernel
theorem dL_law_2634 : decode cL_law 2634 = .ok (.iadd, 1) := by decide +kernel
theorem dL_law_2635 : decode cL_law 2635 = .ok (.iaload, 1) := by decide +kernel
theorem dL_law_2636 : decode cL_law 2636 = .ok (.aload_n 0, 1) := by decide +kernel
theorem dL_law_2637 : decode cL_law 2637 = .ok (.iload 4, 2) := by decide +kernel
theorem dL_law_2639 : decode cL_law 2639 = .ok (.iconst 3, 1) := by decide +kernel
theorem dL_law_2640 : decode cL_law 2640 = .ok (.iadd, 1) := by decide +kernel
theorem dL_law_2641 : decode cL_law 2641 = .ok (.iaload, 1) := by decide +kernel
theorem dL_law_2642 : decode cL_law 2642 = .ok (.invokevirtual 264, 3) := by decide +kernel
theorem dL_law_2645 : decode cL_law 2645 = .ok (.istore 6, 2) := by decide +kernel
theorem dL_law_2647 : decode cL_law 2647 = .ok (.aload_n 2, 1) := by decide +kernel
theorem dL_law_2648 : decode cL_law 2648 = .ok (.invokevirtual 143, 3) := by decide +kernel
theorem dL_law_2651 : decode cL_law 2651 = .ok (.iload 5, 2) := by decide +kernel
theorem dL_law_2653 : decode cL_law 2653 = .ok (.if_icmp .eq 5, 3) := by decide +kernel
theorem dL_law_2656 : decode cL_law 2656 = .ok (.iconst 0, 1) := by decide +kernel
theorem dL_law_2657 : decode cL_law 2657 = .ok (.ireturn, 1) := by decide +kernel
theorem dL_law_2658 : decode cL_law 2658 = .ok (.iload 5, 2) := by decide +kernel
theorem dL_law_2660 : decode cL_law 2660 = .ok (.ifCond .ne 15, 3) := by decide +kernel
theorem dL_law_2663 : decode cL_law 2663 = .ok (.aload_n 3, 1) := by decide +kernel
theorem dL_law_2664 : decode cL_law 2664 = .ok (.iconst 0, 1) := by decide +kernel
theorem dL_law_2665 : decode cL_law 2665 = .ok (.laload, 1) := by decide +kernel
theorem dL_law_2666 : decode cL_law 2666 = .ok (.iload 6, 2) := by decide +kernel
theorem dL_law_2668 : decode cL_law 2668 = .ok (.i2l, 1) := by decide +kernel
theorem dL_law_2669 : decode cL_law 2669 = .ok (.lcmp, 1) := by decide +kernel
theorem dL_law_2670 : decode cL_law 2670 = .ok (.ifCond .eq 5, 3) := by decide +kernel
theorem dL_law_2673 : decode cL_law 2673 = .ok (.iconst 0, 1) := by decide +kernel
theorem dL_law_2674 : decode cL_law 2674 = .ok (.ireturn, 1) := by decide +kernel
theorem dL_law_2675 : decode cL_law 2675 = .ok (.goto 3, 3) := by decide +kernel
theorem dL_law_2678 : decode cL_law 2678 = .ok (.iinc 4 5, 3) := by decide +kernel
theorem dL_law_2681 : decode cL_law 2681 = .ok (.goto (-2658), 3) := by decide +kernel
theorem dL_law_2684 : decode cL_law 2684 = .ok (.iconst 1, 1) := by decide +kernel
theorem dL_law_2685 : decode cL_law 2685 = .ok (.ireturn, 1) := by decide +kernel
