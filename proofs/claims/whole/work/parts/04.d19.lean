theorem dL_law_1520 : decode cL_law 1520 = .ok (.laload, 1) := by decide +kernel
theorem dL_law_1521 : decode cL_law 1521 = .ok (.iload 6, 2) := by decide +kernel
theorem dL_law_1523 : decode cL_law 1523 = .ok (.i2l, 1) := by decide +kernel
theorem dL_law_1524 : decode cL_law 1524 = .ok (.lcmp, 1) := by decide +kernel
theorem dL_law_1525 : decode cL_law 1525 = .ok (.ifCond .eq 5, 3) := by decide +kernel
theorem dL_law_1528 : decode cL_law 1528 = .ok (.iconst 0, 1) := by decide +kernel
theorem dL_law_1529 : decode cL_law 1529 = .ok (.ireturn, 1) := by decide +kernel
theorem dL_law_1530 : decode cL_law 1530 = .ok (.goto 459, 3) := by decide +kernel
theorem dL_law_1533 : decode cL_law 1533 = .ok (.aload_n 1, 1) := by decide +kernel
theorem dL_law_1534 : decode cL_law 1534 = .ok (.aload_n 0, 1) := by decide +kernel
theorem dL_law_1535 : decode cL_law 1535 = .ok (.iload 4, 2) := by decide +kernel
theorem dL_law_1537 : decode cL_law 1537 = .ok (.iconst 1, 1) := by decide +kernel
theorem dL_law_1538 : decode cL_law 1538 = .ok (.iadd, 1) := by decide +kernel
theorem dL_law_1539 : decode cL_law 1539 = .ok (.iaload, 1) := by decide +kernel
theorem dL_law_1540 : decode cL_law 1540 = .ok (.aload_n 3, 1) := by decide +kernel
theorem dL_law_1541 : decode cL_law 1541 = .ok (.invokestatic 185, 3) := by decide +kernel
theorem dL_law_1544 : decode cL_law 1544 = .ok (.istore 5, 2) := by decide +kernel
theorem dL_law_1546 : decode cL_law 1546 = .ok (.aload_n 2, 1) := by decide +kernel
theorem dL_law_1547 : decode cL_law 1547 = .ok (.aload_n 0, 1) := by decide +kernel
theorem dL_law_1548 : decode cL_law 1548 = .ok (.iload 4, 2) := by decide +kernel
theorem dL_law_1550 : decode cL_law 1550 = .ok (.iconst 1, 1) := by decide +kernel
theorem dL_law_1551 : decode cL_law 1551 = .ok (.iadd, 1) := by decide +kernel
theorem dL_law_1552 : decode cL_law 1552 = .ok (.iaload, 1) := by decide +kernel
theorem dL_law_1553 : decode cL_law 1553 = .ok (.invokevirtual 187, 3) := by decide +kernel
theorem dL_law_1556 : decode cL_law 1556 = .ok (.istore 6, 2) := by decide +kernel
theorem dL_law_1558 : decode cL_law 1558 = .ok (.aload_n 2, 1) := by decide +kernel
theorem dL_law_1559 : decode cL_law 1559 = .ok (.invokevirtual 100, 3) := by decide +kernel
theorem dL_law_1562 : decode cL_law 1562 = .ok (.iload 5, 2) := by decide +kernel
theorem dL_law_1564 : decode cL_law 1564 = .ok (.if_icmp .eq 5, 3) := by decide +kernel
theorem dL_law_1567 : decode cL_law 1567 = .ok (.iconst 0, 1) := by decide +kernel
theorem dL_law_1568 : decode cL_law 1568 = .ok (.ireturn, 1) := by decide +kernel
theorem dL_law_1569 : decode cL_law 1569 = .ok (.iload 5, 2) := by decide +kernel
theorem dL_law_1571 : decode cL_law 1571 = .ok (.ifCond .ne 15, 3) := by decide +kernel
theorem dL_law_1574 : decode cL_law 1574 = .ok (.aload_n 3, 1) := by decide +kernel
theorem dL_law_1575 : decode cL_law 1575 = .ok (.iconst 0, 1) := by decide +kernel
theorem dL_law_1576 : decode cL_law 1576 = .ok (.laload, 1) := by decide +kernel
theorem dL_law_1577 : decode cL_law 1577 = .ok (.iload 6, 2) := by decide +kernel
theorem dL_law_1579 : decode cL_law 1579 = .ok (.i2l, 1) := by decide +kernel
theorem dL_law_1580 : decode cL_law 1580 = .ok (.lcmp, 1) := by decide +kernel
theorem dL_law_1581 : decode cL_law 1581 = .ok (.ifCond .eq 5, 3) := by decide +kernel
theorem dL_law_1584 : decode cL_law 1584 = .ok (.iconst 0, 1) := by decide +kernel
theorem dL_law_1585 : decode cL_law 1585 = .ok (.ireturn, 1) := by decide +kernel
theorem dL_law_1586 : decode cL_law 1586 = .ok (.goto 403, 3) := by decide +kernel
theorem dL_law_1589 : decode cL_law 1589 = .ok (.aload_n 1, 1) := by decide +kernel
theorem dL_law_1590 : decode cL_law 1590 = .ok (.aload_n 0, 1) := by decide +kernel
theorem dL_law_1591 : decode cL_law 1591 = .ok (.iload 4, 2) := by decide +kernel
theorem dL_law_1593 : decode cL_law 1593 = .ok (.iconst 1, 1) := by decide +kernel
theorem dL_law_1594 : decode cL_law 1594 = .ok (.iadd, 1) := by decide +kernel
theorem dL_law_1595 : decode cL_law 1595 = .ok (.iaload, 1) := by decide +kernel
theorem dL_law_1596 : decode cL_law 1596 = .ok (.aload_n 3, 1) := by decide +kernel
theorem dL_law_1597 : decode cL_law 1597 = .ok (.invokestatic 188, 3) := by decide +kernel
theorem dL_law_1600 : decode cL_law 1600 = .ok (.istore 5, 2) := by decide +kernel
theorem dL_law_1602 : decode cL_law 1602 = .ok (.aload_n 2, 1) := by decide +kernel
theorem dL_law_1603 : decode cL_law 1603 = .ok (.aload_n 0, 1) := by decide +kernel
theorem dL_law_1604 : decode cL_law 1604 = .ok (.iload 4, 2) := by decide +kernel
theorem dL_law_1606 : decode cL_law 1606 = .ok (.iconst 1, 1) := by decide +kernel
theorem dL_law_1607 : decode cL_law 1607 = .ok (.iadd, 1) := by decide +kernel
theorem dL_law_1608 : decode cL_law 1608 = .ok (.iaload, 1) := by decide +kernel
theorem dL_law_1609 : decode cL_law 1609 = .ok (.invokevirtual 190, 3) := by decide +kernel
theorem dL_law_1612 : decode cL_law 1612 = .ok (.istore 6, 2) := by decide +kernel
theorem dL_law_1614 : decode cL_law 1614 = .ok (.aload_n 2, 1) := by decide +kernel
theorem dL_law_1615 : decode cL_law 1615 = .ok (.invokevirtual 100, 3) := by decide +kernel
theorem dL_law_1618 : decode cL_law 1618 = .ok (.iload 5, 2) := by decide +kernel
theorem dL_law_1620 : decode cL_law 1620 = .ok (.if_icmp .eq 5, 3) := by decide +kernel
theorem dL_law_1623 : decode cL_law 1623 = .ok (.iconst 0, 1) := by decide +kernel
theorem dL_law_1624 : decode cL_law 1624 = .ok (.ireturn, 1) := by decide +kernel
theorem dL_law_1625 : decode cL_law 1625 = .ok (.iload 5, 2) := by decide +kernel
theorem dL_law_1627 : decode cL_law 1627 = .ok (.ifCond .ne 15, 3) := by decide +kernel
theorem dL_law_1630 : decode cL_law 1630 = .ok (.aload_n 3, 1) := by decide +kernel
theorem dL_law_1631 : decode cL_law 1631 = .ok (.iconst 0, 1) := by decide +kernel
theorem dL_law_1632 : decode cL_law 1632 = .ok (.laload, 1) := by decide +kernel
theorem dL_law_1633 : decode cL_law 1633 = .ok (.iload 6, 2) := by decide +kernel
theorem dL_law_1635 : decode cL_law 1635 = .ok (.i2l, 1) := by decide +kernel
theorem dL_law_1636 : decode cL_law 1636 = .ok (.lcmp, 1) := by decide +kernel
theorem dL_law_1637 : decode cL_law 1637 = .ok (.ifCond .eq 5, 3) := by decide +kernel
theorem dL_law_1640 : decode cL_law 1640 = .ok (.iconst 0, 1) := by decide +kernel
theorem dL_law_1641 : decode cL_law 1641 = .ok (.ireturn, 1) := by decide +kernel
theorem dL_law_1642 : decode cL_law 1642 = .ok (.goto 347, 3) := by decide +kernel
theorem dL_law_1645 : decode cL_law 1645 = .ok (.aload_n 1, 1) := by decide +kernel
theorem dL_law_1646 : decode cL_law 1646 = .ok (.aload_n 0, 1) := by decide +kernel
theorem dL_law_1647 : decode cL_law 1647 = .ok (.iload 4, 2) := by decide +kernel
theorem dL_law_1649 : decode cL_law 1649 = .ok (.iconst 1, 1) := by decide +kernel
theorem dL_law_1650 : decode cL_law 1650 = .ok (.iadd, 1) := by decide +kernel
theorem dL_law_1651 : decode cL_law 1651 = .ok (.iaload, 1) := by decide +kernel
theorem dL_law_1652 : decode cL_law 1652 = .ok (.aload_n 0, 1) := by decide +kernel
theorem dL_law_1653 : decode cL_law 1653 = .ok (.iload 4, 2) := by decide +kernel
theorem dL_law_1655 : decode cL_law 1655 = .ok (.iconst 2, 1) := by decide +kernel
theorem dL_law_1656 : decode cL_law 1656 = .ok (.iadd, 1) := by decide +kernel
theorem dL_law_1657 : decode cL_law 1657 = .ok (.iaload, 1) := by decide +kernel
theorem dL_law_1658 : decode cL_law 1658 = .ok (.invokevirtual 191, 3) := by decide +kernel
theorem dL_law_1661 : decode cL_law 1661 = .ok (.aload_n 2, 1) := by decide +kernel
theorem dL_law_1662 : decode cL_law 1662 = .ok (.aload_n 0, 1) := by decide +kernel
theorem dL_law_1663 : decode cL_law 1663 = .ok (.iload 4, 2) := by decide +kernel
theorem dL_law_1665 : decode cL_law 1665 = .ok (.iconst 1, 1) := by decide +kernel
theorem dL_law_1666 : decode cL_law 1666 = .ok (.iadd, 1) := by decide +kernel
theorem dL_law_1667 : decode cL_law 1667 = .ok (.iaload, 1) := by decide +kernel
theorem dL_law_1668 : decode cL_law 1668 = .ok (.aload_n 0, 1) := by decide +kernel
theorem dL_law_1669 : decode cL_law 1669 = .ok (.iload 4, 2) := by decide +kernel
theorem dL_law_1671 : decode cL_law 1671 = .ok (.iconst 2, 1) := by decide +kernel
theorem dL_law_1672 : decode cL_law 1672 = .ok (.iadd, 1) := by decide +kernel
theorem dL_law_1673 : decode cL_law 1673 = .ok (.iaload, 1) := by decide +kernel
theorem dL_law_1674 : decode cL_law 1674 = .ok (.invokevirtual 194, 3) := by decide +kernel
theorem dL_law_1677 : decode cL_law 1677 = .ok (.if_icmp .eq 312, 3) := by decide +kernel
theorem dL_law_1680 : decode cL_law 1680 = .ok (.iconst 0, 1) := by decide +kernel
theorem dL_law_1681 : decode cL_law 1681 = .ok (.ireturn, 1) := by decide +kernel
theorem dL_law_1682 : decode cL_law 1682 = .ok (.aload_n 1, 1) := by decide +kernel
theorem dL_law_1683 : decode cL_law 1683 = .ok (.aload_n 0, 1) := by decide +kernel
theorem dL_law_1684 : decode cL_law 1684 = .ok (.iload 4, 2) := by decide +kernel
theorem dL_law_1686 : decode cL_law 1686 = .ok (.iconst 1, 1) := by decide +kernel
theorem dL_law_1687 : decode cL_law 1687 = .ok (.iadd, 1) := by decide +kernel
theorem dL_law_1688 : decode cL_law 1688 = .ok (.iaload, 1) := by decide +kernel
theorem dL_law_1689 : decode cL_law 1689 = .ok (.aload_n 3, 1) := by decide +kernel
theorem dL_law_1690 : decode cL_law 1690 = .ok (.invokestatic 195, 3) := by decide +kernel
theorem dL_law_1693 : decode cL_law 1693 = .ok (.istore 5, 2) := by decide +kernel
theorem dL_law_1695 : decode cL_law 1695 = .ok (.aload_n 2, 1) := by decide +kernel
theorem dL_law_1696 : decode cL_law 1696 = .ok (.aload_n 0, 1) := by decide +kernel
theorem dL_law_1697 : decode cL_law 1697 = .ok (.iload 4, 2) := by decide +kernel
theorem dL_law_1699 : decode cL_law 1699 = .ok (.iconst 1, 1) := by decide +kernel
theorem dL_law_1700 : decode cL_law 1700 = .ok (.iadd, 1) := by decide +kernel
theorem dL_law_1701 : decode cL_law 1701 = .ok (.iaload, 1) := by decide +kernel
theorem dL_law_1702 : decode cL_law 1702 = .ok (.invokevirtual 197, 3) := by decide +kernel
theorem dL_law_1705 : decode cL_law 1705 = .ok (.istore 6, 2) := by decide +kernel
theorem dL_law_1707 : decode cL_law 1707 = .ok (.aload_n 2, 1) := by decide +kernel
theorem dL_law_1708 : decode cL_law 1708 = .ok (.invokevirtual 100, 3) := by decide +kernel
theorem dL_law_1711 : decode cL_law 1711 = .ok (.iload 5, 2) := by decide +kernel
theorem dL_law_1713 : decode cL_law 1713 = .ok (.if_icmp .eq 5, 3) := by decide +kernel
theorem dL_law_1716 : decode cL_law 1716 = .ok (.iconst 0, 1) := by decide +kernel
theorem dL_law_1717 : decode cL_law 1717 = .ok (.ireturn, 1) := by decide +kernel
theorem dL_law_1718 : decode cL_law 1718 = .ok (.iload 5, 2) := by decide +kernel
theorem dL_law_1720 : decode cL_law 1720 = .ok (.ifCond .ne 15, 3) := by decide +kernel
theorem dL_law_1723 : decode cL_law 1723 = .ok (.aload_n 3, 1) := by decide +kernel
theorem dL_law_1724 : decode cL_law 1724 = .ok (.iconst 0, 1) := by decide +kernel
theorem dL_law_1725 : decode cL_law 1725 = .ok (.laload, 1) := by decide +kernel
theorem dL_law_1726 : decode cL_law 1726 = .ok (.iload 6, 2) := by decide +kernel
theorem dL_law_1728 : decode cL_law 1728 = .ok (.i2l, 1) := by decide +kernel
theorem dL_law_1729 : decode cL_law 1729 = .ok (.lcmp, 1) := by decide +kernel
theorem dL_law_1730 : decode cL_law 1730 = .ok (.ifCond .eq 5, 3) := by decide +kernel
theorem dL_law_1733 : decode cL_law 1733 = .ok (.iconst 0, 1) := by decide +kernel
theorem dL_law_1734 : decode cL_law 1734 = .ok (.ireturn, 1) := by decide +kernel
theorem dL_law_1735 : decode cL_law 1735 = .ok (.goto 254, 3) := by decide +kernel
theorem dL_law_1738 : decode cL_law 1738 = .ok (.aload_n 1, 1) := by decide +kernel
theorem dL_law_1739 : decode cL_law 1739 = .ok (.aload_n 0, 1) := by decide +kernel
theorem dL_law_1740 : decode cL_law 1740 = .ok (.iload 4, 2) := by decide +kernel
theorem dL_law_1742 : decode cL_law 1742 = .ok (.iconst 1, 1) := by decide +kernel
theorem dL_law_1743 : decode cL_law 1743 = .ok (.iadd, 1) := by decide +kernel
theorem dL_law_1744 : decode cL_law 1744 = .ok (.iaload, 1) := by decide +kernel
theorem dL_law_1745 : decode cL_law 1745 = .ok (.aload_n 3, 1) := by decide +kernel
theorem dL_law_1746 : decode cL_law 1746 = .ok (.invokestatic 198, 3) := by decide +kernel
theorem dL_law_1749 : decode cL_law 1749 = .ok (.istore 5, 2) := by decide +kernel
theorem dL_law_1751 : decode cL_law 1751 = .ok (.aload_n 2, 1) := by decide +kernel
theorem dL_law_1752 : decode cL_law 1752 = .ok (.aload_n 0, 1) := by decide +kernel
theorem dL_law_1753 : decode cL_law 1753 = .ok (.iload 4, 2) := by decide +kernel
theorem dL_law_1755 : decode cL_law 1755 = .ok (.iconst 1, 1) := by decide +kernel
theorem dL_law_1756 : decode cL_law 1756 = .ok (.iadd, 1) := by decide +kernel
theorem dL_law_1757 : decode cL_law 1757 = .ok (.iaload, 1) := by decide +kernel
theorem dL_law_1758 : decode cL_law 1758 = .ok (.invokevirtual 200, 3) := by decide +kernel
theorem dL_law_1761 : decode cL_law 1761 = .ok (.istore 6, 2) := by decide +kernel
theorem dL_law_1763 : decode cL_law 1763 = .ok (.aload_n 2, 1) := by decide +kernel
theorem dL_law_1764 : decode cL_law 1764 = .ok (.invokevirtual 100, 3) := by decide +kernel
theorem dL_law_1767 : decode cL_law 1767 = .ok (.iload 5, 2) := by decide +kernel
theorem dL_law_1769 : decode cL_law 1769 = .ok (.if_icmp .eq 5, 3) := by decide +kernel
theorem dL_law_1772 : decode cL_law 1772 = .ok (.iconst 0, 1) := by decide +kernel
theorem dL_law_1773 : decode cL_law 1773 = .ok (.ireturn, 1) := by decide +kernel
theorem dL_law_1774 : decode cL_law 1774 = .ok (.iload 5, 2) := by decide +kernel
theorem dL_law_1776 : decode cL_law 1776 = .ok (.ifCond .ne 15, 3) := by decide +kernel
theorem dL_law_1779 : decode cL_law 1779 = .ok (.aload_n 3, 1) := by decide +kernel
theorem dL_law_1780 : decode cL_law 1780 = .ok (.iconst 0, 1) := by decide +kernel
theorem dL_law_1781 : decode cL_law 1781 = .ok (.laload, 1) := by decide +kernel
theorem dL_law_1782 : decode cL_law 1782 = .ok (.iload 6, 2) := by decide +kernel
theorem dL_law_1784 : decode cL_law 1784 = .ok (.i2l, 1) := by decide +kernel
theorem dL_law_1785 : decode cL_law 1785 = .ok (.lcmp, 1) := by decide +kernel
theorem dL_law_1786 : decode cL_law 1786 = .ok (.ifCond .eq 5, 3) := by decide +kernel
theorem dL_law_1789 : decode cL_law 1789 = .ok (.iconst 0, 1) := by decide +kernel
theorem dL_law_1790 : decode cL_law 1790 = .ok (.ireturn, 1) := by decide +kernel
theorem dL_law_1791 : decode cL_law 1791 = .ok (.goto 198, 3) := by decide +kernel
theorem dL_law_1794 : decode cL_law 1794 = .ok (.aload_n 1, 1) := by decide +kernel
theorem dL_law_1795 : decode cL_law 1795 = .ok (.invokevirtual 201, 3) := by decide +kernel
theorem dL_law_1798 : decode cL_law 1798 = .ok (.aload_n 2, 1) := by decide +kernel
theorem dL_law_1799 : decode cL_law 1799 = .ok (.invokevirtual 204, 3) := by decide +kernel
theorem dL_law_1802 : decode cL_law 1802 = .ok (.goto 187, 3) := by decide +kernel
theorem dL_law_1805 : decode cL_law 1805 = .ok (.aload_n 1, 1) := by decide +kernel
theorem dL_law_1806 : decode cL_law 1806 = .ok (.aload_n 0, 1) := by decide +kernel
theorem dL_law_1807 : decode cL_law 1807 = .ok (.iload 4, 2) := by decide +kernel
theorem dL_law_1809 : decode cL_law 1809 = .ok (.iconst 1, 1) := by decide +kernel
theorem dL_law_1810 : decode cL_law 1810 = .ok (.iadd, 1) := by decide +kernel
theorem dL_law_1811 : decode cL_law 1811 = .ok (.iaload, 1) := by decide +kernel
theorem dL_law_1812 : decode cL_law 1812 = .ok (.aload_n 0, 1) := by decide +kernel
theorem dL_law_1813 : decode cL_law 1813 = .ok (.iload 4, 2) := by decide +kernel
theorem dL_law_1815 : decode cL_law 1815 = .ok (.iconst 2, 1) := by decide +kernel
theorem dL_law_1816 : decode cL_law 1816 = .ok (.iadd, 1) := by decide +kernel
theorem dL_law_1817 : decode cL_law 1817 = .ok (.iaload, 1) := by decide +kernel
theorem dL_law_1818 : decode cL_law 1818 = .ok (.aload_n 3, 1) := by decide +kernel
theorem dL_law_1819 : decode cL_law 1819 = .ok (.invokestatic 205, 3) := by decide +kernel
theorem dL_law_1822 : decode cL_law 1822 = .ok (.istore 5, 2) := by decide +kernel
theorem dL_law_1824 : decode cL_law 1824 = .ok (.aload_n 2, 1) := by decide +kernel
theorem dL_law_1825 : decode cL_law 1825 = .ok (.aload_n 0, 1) := by decide +kernel
theorem dL_law_1826 : decode cL_law 1826 = .ok (.iload 4, 2) := by decide +kernel
theorem dL_law_1828 : decode cL_law 1828 = .ok (.iconst 1, 1) := by decide +kernel
theorem dL_law_1829 : decode cL_law 1829 = .ok (.iadd, 1) := by decide +kernel
theorem dL_law_1830 : decode cL_law 1830 = .ok (.iaload, 1) := by decide +kernel
theorem dL_law_1831 : decode cL_law 1831 = .ok (.aload_n 0, 1) := by decide +kernel
theorem dL_law_1832 : decode cL_law 1832 = .ok (.iload 4, 2) := by decide +kernel
theorem dL_law_1834 : decode cL_law 1834 = .ok (.iconst 2, 1) := by decide +kernel
theorem dL_law_1835 : decode cL_law 1835 = .ok (.iadd, 1) := by decide +kernel
theorem dL_law_1836 : decode cL_law 1836 = .ok (.iaload, 1) := by decide +kernel
theorem dL_law_1837 : decode cL_law 1837 = .ok (.invokevirtual 207, 3) := by decide +kernel
theorem dL_law_1840 : decode cL_law 1840 = .ok (.istore 6, 2) := by decide +kernel
theorem dL_law_1842 : decode cL_law 1842 = .ok (.aload_n 2, 1) := by decide +kernel
theorem dL_law_1843 : decode cL_law 1843 = .ok (.invokevirtual 100, 3) := by decide +kernel
theorem dL_law_1846 : decode cL_law 1846 = .ok (.iload 5, 2) := by decide +kernel
theorem dL_law_1848 : decode cL_law 1848 = .ok (.if_icmp .eq 5, 3) := by decide +kernel
theorem dL_law_1851 : decode cL_law 1851 = .ok (.iconst 0, 1) := by decide +kernel
theorem dL_law_1852 : decode cL_law 1852 = .ok (.ireturn, 1) := by decide +kernel
theorem dL_law_1853 : decode cL_law 1853 = .ok (.iload 5, 2) := by decide +kernel
theorem dL_law_1855 : decode cL_law 1855 = .ok (.ifCond .ne 15, 3) := by decide +kernel
theorem dL_law_1858 : decode cL_law 1858 = .ok (.aload_n 3, 1) := by decide +kernel
theorem dL_law_1859 : decode cL_law 1859 = .ok (.iconst 0, 1) := by decide +kernel
theorem dL_law_1860 : decode cL_law 1860 = .ok (.laload, 1) := by decide +kernel
theorem dL_law_1861 : decode cL_law 1861 = .ok (.iload 6, 2) := by decide +kernel
theorem dL_law_1863 : decode cL_law 1863 = .ok (.i2l, 1) := by decide +kernel
theorem dL_law_1864 : decode cL_law 1864 = .ok (.lcmp, 1) := by decide +kernel
theorem dL_law_1865 : decode cL_law 1865 = .ok (.ifCond .eq 5, 3) := by decide +kernel
theorem dL_law_1868 : decode cL_law 1868 = .ok (.iconst 0, 1) := by decide +kernel
theorem dL_law_1869 : decode cL_law 1869 = .ok (.ireturn, 1) := by decide +kernel
theorem dL_law_1870 : decode cL_law 1870 = .ok (.goto 119, 3) := by decide +kernel
theorem dL_law_1873 : decode cL_law 1873 = .ok (.aload_n 1, 1) := by decide +kernel
theorem dL_law_1874 : decode cL_law 1874 = .ok (.aload_n 0, 1) := by decide +kernel
theorem dL_law_1875 : decode cL_law 1875 = .ok (.iload 4, 2) := by decide +kernel
theorem dL_law_1877 : decode cL_law 1877 = .ok (.iconst 1, 1) := by decide +kernel
theorem dL_law_1878 : decode cL_law 1878 = .ok (.iadd, 1) := by decide +kernel
theorem dL_law_1879 : decode cL_law 1879 = .ok (.iaload, 1) := by decide +kernel
theorem dL_law_1880 : decode cL_law 1880 = .ok (.aload_n 0, 1) := by decide +kernel
theorem dL_law_1881 : decode cL_law 1881 = .ok (.iload 4, 2) := by decide +kernel
theorem dL_law_1883 : decode cL_law 1883 = .ok (.iconst 2, 1) := by decide +kernel
theorem dL_law_1884 : decode cL_law 1884 = .ok (.iadd, 1) := by decide +kernel
theorem dL_law_1885 : decode cL_law 1885 = .ok (.iaload, 1) := by decide +kernel
theorem dL_law_1886 : decode cL_law 1886 = .ok (.aload_n 0, 1) := by decide +kernel
theorem dL_law_1887 : decode cL_law 1887 = .ok (.iload 4, 2) := by decide +kernel
theorem dL_law_1889 : decode cL_law 1889 = .ok (.iconst 3, 1) := by decide +kernel
theorem dL_law_1890 : decode cL_law 1890 = .ok (.iadd, 1) := by decide +kernel
theorem dL_law_1891 : decode cL_law 1891 = .ok (.iaload, 1) := by decide +kernel
theorem dL_law_1892 : decode cL_law 1892 = .ok (.aload_n 0, 1) := by decide +kernel
theorem dL_law_1893 : decode cL_law 1893 = .ok (.iload 4, 2) := by decide +kernel
theorem dL_law_1895 : decode cL_law 1895 = .ok (.iconst 4, 1) := by decide +kernel
theorem dL_law_1896 : decode cL_law 1896 = .ok (.iadd, 1) := by decide +kernel
theorem dL_law_1897 : decode cL_law 1897 = .ok (.iaload, 1) := by decide +kernel
theorem dL_law_1898 : decode cL_law 1898 = .ok (.aload_n 3, 1) := by decide +kernel
theorem dL_law_1899 : decode cL_law 1899 = .ok (.invokestatic 208, 3) := by decide +kernel
theorem dL_law_1902 : decode cL_law 1902 = .ok (.istore 5, 2) := by decide +kernel
theorem dL_law_1904 : decode cL_law 1904 = .ok (.aload_n 2, 1) := by decide +kernel
theorem dL_law_1905 : decode cL_law 1905 = .ok (.aload_n 0, 1) := by decide +kernel
theorem dL_law_1906 : decode cL_law 1906 = .ok (.iload 4, 2) := by decide +kernel
theorem dL_law_1908 : decode cL_law 1908 = .ok (.iconst 1, 1) := by decide +kernel
theorem dL_law_1909 : decode cL_law 1909 = .ok (.iadd, 1) := by decide +kernel
theorem dL_law_1910 : decode cL_law 1910 = .ok (.iaload, 1) := by decide +kernel
theorem dL_law_1911 : decode cL_law 1911 = .ok (.aload_n 0, 1) := by decide +kernel
theorem dL_law_1912 : decode cL_law 1912 = .ok (.iload 4, 2) := by decide +kernel
theorem dL_law_1914 : decode cL_law 1914 = .ok (.iconst 2, 1) := by decide +kernel
theorem dL_law_1915 : decode cL_law 1915 = .ok (.iadd, 1) := by decide +kernel
theorem dL_law_1916 : decode cL_law 1916 = .ok (.iaload, 1) := by decide +kernel
theorem dL_law_1917 : decode cL_law 1917 = .ok (.aload_n 0, 1) := by decide +kernel
theorem dL_law_1918 : decode cL_law 1918 = .ok (.iload 4, 2) := by decide +kernel
theorem dL_law_1920 : decode cL_law 1920 = .ok (.iconst 3, 1) := by decide +kernel
theorem dL_law_1921 : decode cL_law 1921 = .ok (.iadd, 1) := by decide +kernel
theorem dL_law_1922 : decode cL_law 1922 = .ok (.iaload, 1) := by decide +kernel
theorem dL_law_1923 : decode cL_law 1923 = .ok (.aload_n 0, 1) := by decide +kernel
theorem dL_law_1924 : decode cL_law 1924 = .ok (.iload 4, 2) := by decide +kernel
theorem dL_law_1926 : decode cL_law 1926 = .ok (.iconst 4, 1) := by decide +kernel
theorem dL_law_1927 : decode cL_law 1927 = .ok (.iadd, 1) := by decide +kernel
theorem dL_law_1928 : decode cL_law 1928 = .ok (.iaload, 1) := by decide +kernel
theorem dL_law_1929 : decode cL_law 1929 = .ok (.invokevirtual 211, 3) := by decide +kernel
theorem dL_law_1932 : decode cL_law 1932 = .ok (.istore 6, 2) := by decide +kernel
theorem dL_law_1934 : decode cL_law 1934 = .ok (.aload_n 2, 1) := by decide +kernel
theorem dL_law_1935 : decode cL_law 1935 = .ok (.invokevirtual 100, 3) := by decide +kernel
theorem dL_law_1938 : decode cL_law 1938 = .ok (.iload 5, 2) := by decide +kernel
theorem dL_law_1940 : decode cL_law 1940 = .ok (.if_icmp .eq 5, 3) := by decide +kernel
theorem dL_law_1943 : decode cL_law 1943 = .ok (.iconst 0, 1) := by decide +kernel
theorem dL_law_1944 : decode cL_law 1944 = .ok (.ireturn, 1) := by decide +kernel
theorem dL_law_1945 : decode cL_law 1945 = .ok (.iload 5, 2) := by decide +kernel
theorem dL_law_1947 : decode cL_law 1947 = .ok (.ifCond .ne 15, 3) := by decide +kernel
theorem dL_law_1950 : decode cL_law 1950 = .ok (.aload_n 3, 1) := by decide +kernel
theorem dL_law_1951 : decode cL_law 1951 = .ok (.iconst 0, 1) := by decide +kernel
theorem dL_law_1952 : decode cL_law 1952 = .ok (.laload, 1) := by decide +kernel
theorem dL_law_1953 : decode cL_law 1953 = .ok (.iload 6, 2) := by decide +kernel
theorem dL_law_1955 : decode cL_law 1955 = .ok (.i2l, 1) := by decide +kernel
theorem dL_law_1956 : decode cL_law 1956 = .ok (.lcmp, 1) := by decide +kernel
theorem dL_law_1957 : decode cL_law 1957 = .ok (.ifCond .eq 5, 3) := by decide +kernel
theorem dL_law_1960 : decode cL_law 1960 = .ok (.iconst 0, 1) := by decide +kernel
theorem dL_law_1961 : decode cL_law 1961 = .ok (.ireturn, 1) := by decide +kernel
theorem dL_law_1962 : decode cL_law 1962 = .ok (.goto 27, 3) := by decide +kernel
theorem dL_law_1965 : decode cL_law 1965 = .ok (.aload_n 1, 1) := by decide +kernel
theorem dL_law_1966 : decode cL_law 1966 = .ok (.invokevirtual 212, 3) := by decide +kernel
theorem dL_law_1969 : decode cL_law 1969 = .ok (.aload_n 2, 1) := by decide +kernel
theorem dL_law_1970 : decode cL_law 1970 = .ok (.invokevirtual 215, 3) := by decide +kernel
theorem dL_law_1973 : decode cL_law 1973 = .ok (.goto 16, 3) := by decide +kernel
theorem dL_law_1976 : decode cL_law 1976 = .ok (.aload_n 1, 1) := by decide +kernel
theorem dL_law_1977 : decode cL_law 1977 = .ok (.invokevirtual 216, 3) := by decide +kernel
theorem dL_law_1980 : decode cL_law 1980 = .ok (.aload_n 2, 1) := by decide +kernel
theorem dL_law_1981 : decode cL_law 1981 = .ok (.invokevirtual 220, 3) := by decide +kernel
theorem dL_law_1984 : decode cL_law 1984 = .ok (.if_icmp .eq 5, 3) := by decide +kernel
theorem dL_law_1987 : decode cL_law 1987 = .ok (.iconst 0, 1) := by decide +kernel
theorem dL_law_1988 : decode cL_law 1988 = .ok (.ireturn, 1) := by decide +kernel
theorem dL_law_1989 : decode cL_law 1989 = .ok (.iinc 4 6, 3) := by decide +kernel
theorem dL_law_1992 : decode cL_law 1992 = .ok (.goto (-1969), 3) := by decide +kernel
theorem dL_law_1995 : decode cL_law 1995 = .ok (.iconst 1, 1) := by decide +kernel
theorem dL_law_1996 : decode cL_law 1996 = .ok (.ireturn, 1) := by decide +kernel
