theorem dL_law_1630 : decode cL_law 1630 = .ok (.iload_n 3, 1) := by decide +kernel
theorem dL_law_1631 : decode cL_law 1631 = .ok (.iconst 1, 1) := by decide +kernel
theorem dL_law_1632 : decode cL_law 1632 = .ok (.iadd, 1) := by decide +kernel
theorem dL_law_1633 : decode cL_law 1633 = .ok (.iaload, 1) := by decide +kernel
theorem dL_law_1634 : decode cL_law 1634 = .ok (.aload_n 0, 1) := by decide +kernel
theorem dL_law_1635 : decode cL_law 1635 = .ok (.iload_n 3, 1) := by decide +kernel
theorem dL_law_1636 : decode cL_law 1636 = .ok (.iconst 2, 1) := by decide +kernel
theorem dL_law_1637 : decode cL_law 1637 = .ok (.iadd, 1) := by decide +kernel
theorem dL_law_1638 : decode cL_law 1638 = .ok (.iaload, 1) := by decide +kernel
theorem dL_law_1639 : decode cL_law 1639 = .ok (.invokevirtual 190, 3) := by decide +kernel
theorem dL_law_1642 : decode cL_law 1642 = .ok (.if_icmp .eq 347, 3) := by decide +kernel
theorem dL_law_1647 : decode cL_law 1647 = .ok (.aload_n 1, 1) := by decide +kernel
theorem dL_law_1648 : decode cL_law 1648 = .ok (.aload_n 0, 1) := by decide +kernel
theorem dL_law_1649 : decode cL_law 1649 = .ok (.iload_n 3, 1) := by decide +kernel
theorem dL_law_1650 : decode cL_law 1650 = .ok (.iconst 1, 1) := by decide +kernel
theorem dL_law_1651 : decode cL_law 1651 = .ok (.iadd, 1) := by decide +kernel
theorem dL_law_1652 : decode cL_law 1652 = .ok (.iaload, 1) := by decide +kernel
theorem dL_law_1653 : decode cL_law 1653 = .ok (.aload_n 0, 1) := by decide +kernel
theorem dL_law_1654 : decode cL_law 1654 = .ok (.iload_n 3, 1) := by decide +kernel
theorem dL_law_1655 : decode cL_law 1655 = .ok (.iconst 2, 1) := by decide +kernel
theorem dL_law_1656 : decode cL_law 1656 = .ok (.iadd, 1) := by decide +kernel
theorem dL_law_1657 : decode cL_law 1657 = .ok (.iaload, 1) := by decide +kernel
theorem dL_law_1658 : decode cL_law 1658 = .ok (.invokevirtual 191, 3) := by decide +kernel
theorem dL_law_1661 : decode cL_law 1661 = .ok (.aload_n 2, 1) := by decide +kernel
theorem dL_law_1662 : decode cL_law 1662 = .ok (.aload_n 0, 1) := by decide +kernel
theorem dL_law_1663 : decode cL_law 1663 = .ok (.iload_n 3, 1) := by decide +kernel
theorem dL_law_1664 : decode cL_law 1664 = .ok (.iconst 1, 1) := by decide +kernel
theorem dL_law_1665 : decode cL_law 1665 = .ok (.iadd, 1) := by decide +kernel
theorem dL_law_1666 : decode cL_law 1666 = .ok (.iaload, 1) := by decide +kernel
theorem dL_law_1667 : decode cL_law 1667 = .ok (.aload_n 0, 1) := by decide +kernel
theorem dL_law_1668 : decode cL_law 1668 = .ok (.iload_n 3, 1) := by decide +kernel
theorem dL_law_1669 : decode cL_law 1669 = .ok (.iconst 2, 1) := by decide +kernel
theorem dL_law_1670 : decode cL_law 1670 = .ok (.iadd, 1) := by decide +kernel
theorem dL_law_1671 : decode cL_law 1671 = .ok (.iaload, 1) := by decide +kernel
theorem dL_law_1672 : decode cL_law 1672 = .ok (.invokevirtual 194, 3) := by decide +kernel
theorem dL_law_1675 : decode cL_law 1675 = .ok (.if_icmp .eq 314, 3) := by decide +kernel
theorem dL_law_1680 : decode cL_law 1680 = .ok (.aload_n 1, 1) := by decide +kernel
theorem dL_law_1681 : decode cL_law 1681 = .ok (.aload_n 0, 1) := by decide +kernel
theorem dL_law_1682 : decode cL_law 1682 = .ok (.iload_n 3, 1) := by decide +kernel
theorem dL_law_1683 : decode cL_law 1683 = .ok (.iconst 1, 1) := by decide +kernel
theorem dL_law_1684 : decode cL_law 1684 = .ok (.iadd, 1) := by decide +kernel
theorem dL_law_1685 : decode cL_law 1685 = .ok (.iaload, 1) := by decide +kernel
theorem dL_law_1686 : decode cL_law 1686 = .ok (.aload_n 0, 1) := by decide +kernel
theorem dL_law_1687 : decode cL_law 1687 = .ok (.iload_n 3, 1) := by decide +kernel
theorem dL_law_1688 : decode cL_law 1688 = .ok (.iconst 2, 1) := by decide +kernel
theorem dL_law_1689 : decode cL_law 1689 = .ok (.iadd, 1) := by decide +kernel
theorem dL_law_1690 : decode cL_law 1690 = .ok (.iaload, 1) := by decide +kernel
theorem dL_law_1691 : decode cL_law 1691 = .ok (.aload_n 0, 1) := by decide +kernel
theorem dL_law_1692 : decode cL_law 1692 = .ok (.iload_n 3, 1) := by decide +kernel
theorem dL_law_1693 : decode cL_law 1693 = .ok (.iconst 3, 1) := by decide +kernel
theorem dL_law_1694 : decode cL_law 1694 = .ok (.iadd, 1) := by decide +kernel
theorem dL_law_1695 : decode cL_law 1695 = .ok (.iaload, 1) := by decide +kernel
theorem dL_law_1696 : decode cL_law 1696 = .ok (.invokevirtual 195, 3) := by decide +kernel
theorem dL_law_1699 : decode cL_law 1699 = .ok (.aload_n 2, 1) := by decide +kernel
theorem dL_law_1700 : decode cL_law 1700 = .ok (.aload_n 0, 1) := by decide +kernel
theorem dL_law_1701 : decode cL_law 1701 = .ok (.iload_n 3, 1) := by decide +kernel
theorem dL_law_1702 : decode cL_law 1702 = .ok (.iconst 1, 1) := by decide +kernel
theorem dL_law_1703 : decode cL_law 1703 = .ok (.iadd, 1) := by decide +kernel
theorem dL_law_1704 : decode cL_law 1704 = .ok (.iaload, 1) := by decide +kernel
theorem dL_law_1705 : decode cL_law 1705 = .ok (.aload_n 0, 1) := by decide +kernel
theorem dL_law_1706 : decode cL_law 1706 = .ok (.iload_n 3, 1) := by decide +kernel
theorem dL_law_1707 : decode cL_law 1707 = .ok (.iconst 2, 1) := by decide +kernel
theorem dL_law_1708 : decode cL_law 1708 = .ok (.iadd, 1) := by decide +kernel
theorem dL_law_1709 : decode cL_law 1709 = .ok (.iaload, 1) := by decide +kernel
theorem dL_law_1710 : decode cL_law 1710 = .ok (.aload_n 0, 1) := by decide +kernel
theorem dL_law_1711 : decode cL_law 1711 = .ok (.iload_n 3, 1) := by decide +kernel
theorem dL_law_1712 : decode cL_law 1712 = .ok (.iconst 3, 1) := by decide +kernel
theorem dL_law_1713 : decode cL_law 1713 = .ok (.iadd, 1) := by decide +kernel
theorem dL_law_1714 : decode cL_law 1714 = .ok (.iaload, 1) := by decide +kernel
theorem dL_law_1715 : decode cL_law 1715 = .ok (.invokevirtual 198, 3) := by decide +kernel
theorem dL_law_1718 : decode cL_law 1718 = .ok (.if_icmp .eq 271, 3) := by decide +kernel
theorem dL_law_1723 : decode cL_law 1723 = .ok (.aload_n 1, 1) := by decide +kernel
theorem dL_law_1724 : decode cL_law 1724 = .ok (.aload_n 0, 1) := by decide +kernel
theorem dL_law_1725 : decode cL_law 1725 = .ok (.iload_n 3, 1) := by decide +kernel
theorem dL_law_1726 : decode cL_law 1726 = .ok (.iconst 1, 1) := by decide +kernel
theorem dL_law_1727 : decode cL_law 1727 = .ok (.iadd, 1) := by decide +kernel
theorem dL_law_1728 : decode cL_law 1728 = .ok (.iaload, 1) := by decide +kernel
theorem dL_law_1729 : decode cL_law 1729 = .ok (.invokevirtual 199, 3) := by decide +kernel
theorem dL_law_1732 : decode cL_law 1732 = .ok (.aload_n 2, 1) := by decide +kernel
theorem dL_law_1733 : decode cL_law 1733 = .ok (.aload_n 0, 1) := by decide +kernel
theorem dL_law_1734 : decode cL_law 1734 = .ok (.iload_n 3, 1) := by decide +kernel
theorem dL_law_1735 : decode cL_law 1735 = .ok (.iconst 1, 1) := by decide +kernel
theorem dL_law_1736 : decode cL_law 1736 = .ok (.iadd, 1) := by decide +kernel
theorem dL_law_1737 : decode cL_law 1737 = .ok (.iaload, 1) := by decide +kernel
theorem dL_law_1738 : decode cL_law 1738 = .ok (.invokevirtual 202, 3) := by decide +kernel
theorem dL_law_1741 : decode cL_law 1741 = .ok (.if_icmp .eq 248, 3) := by decide +kernel
theorem dL_law_1746 : decode cL_law 1746 = .ok (.aload_n 1, 1) := by decide +kernel
theorem dL_law_1747 : decode cL_law 1747 = .ok (.aload_n 0, 1) := by decide +kernel
theorem dL_law_1748 : decode cL_law 1748 = .ok (.iload_n 3, 1) := by decide +kernel
theorem dL_law_1749 : decode cL_law 1749 = .ok (.iconst 1, 1) := by decide +kernel
theorem dL_law_1750 : decode cL_law 1750 = .ok (.iadd, 1) := by decide +kernel
theorem dL_law_1751 : decode cL_law 1751 = .ok (.iaload, 1) := by decide +kernel
theorem dL_law_1752 : decode cL_law 1752 = .ok (.aload_n 0, 1) := by decide +kernel
theorem dL_law_1753 : decode cL_law 1753 = .ok (.iload_n 3, 1) := by decide +kernel
theorem dL_law_1754 : decode cL_law 1754 = .ok (.iconst 2, 1) := by decide +kernel
theorem dL_law_1755 : decode cL_law 1755 = .ok (.iadd, 1) := by decide +kernel
theorem dL_law_1756 : decode cL_law 1756 = .ok (.iaload, 1) := by decide +kernel
theorem dL_law_1757 : decode cL_law 1757 = .ok (.invokevirtual 203, 3) := by decide +kernel
theorem dL_law_1760 : decode cL_law 1760 = .ok (.aload_n 2, 1) := by decide +kernel
theorem dL_law_1761 : decode cL_law 1761 = .ok (.aload_n 0, 1) := by decide +kernel
theorem dL_law_1762 : decode cL_law 1762 = .ok (.iload_n 3, 1) := by decide +kernel
theorem dL_law_1763 : decode cL_law 1763 = .ok (.iconst 1, 1) := by decide +kernel
theorem dL_law_1764 : decode cL_law 1764 = .ok (.iadd, 1) := by decide +kernel
theorem dL_law_1765 : decode cL_law 1765 = .ok (.iaload, 1) := by decide +kernel
theorem dL_law_1766 : decode cL_law 1766 = .ok (.aload_n 0, 1) := by decide +kernel
theorem dL_law_1767 : decode cL_law 1767 = .ok (.iload_n 3, 1) := by decide +kernel
theorem dL_law_1768 : decode cL_law 1768 = .ok (.iconst 2, 1) := by decide +kernel
theorem dL_law_1769 : decode cL_law 1769 = .ok (.iadd, 1) := by decide +kernel
theorem dL_law_1770 : decode cL_law 1770 = .ok (.iaload, 1) := by decide +kernel
theorem dL_law_1771 : decode cL_law 1771 = .ok (.invokevirtual 206, 3) := by decide +kernel
theorem dL_law_1774 : decode cL_law 1774 = .ok (.if_icmp .eq 215, 3) := by decide +kernel
theorem dL_law_1779 : decode cL_law 1779 = .ok (.aload_n 1, 1) := by decide +kernel
theorem dL_law_1780 : decode cL_law 1780 = .ok (.aload_n 0, 1) := by decide +kernel
theorem dL_law_1781 : decode cL_law 1781 = .ok (.iload_n 3, 1) := by decide +kernel
theorem dL_law_1782 : decode cL_law 1782 = .ok (.iconst 1, 1) := by decide +kernel
theorem dL_law_1783 : decode cL_law 1783 = .ok (.iadd, 1) := by decide +kernel
theorem dL_law_1784 : decode cL_law 1784 = .ok (.iaload, 1) := by decide +kernel
theorem dL_law_1785 : decode cL_law 1785 = .ok (.invokevirtual 207, 3) := by decide +kernel
theorem dL_law_1788 : decode cL_law 1788 = .ok (.aload_n 2, 1) := by decide +kernel
theorem dL_law_1789 : decode cL_law 1789 = .ok (.aload_n 0, 1) := by decide +kernel
theorem dL_law_1790 : decode cL_law 1790 = .ok (.iload_n 3, 1) := by decide +kernel
theorem dL_law_1791 : decode cL_law 1791 = .ok (.iconst 1, 1) := by decide +kernel
theorem dL_law_1792 : decode cL_law 1792 = .ok (.iadd, 1) := by decide +kernel
theorem dL_law_1793 : decode cL_law 1793 = .ok (.iaload, 1) := by decide +kernel
theorem dL_law_1794 : decode cL_law 1794 = .ok (.invokevirtual 210, 3) := by decide +kernel
theorem dL_law_1797 : decode cL_law 1797 = .ok (.if_icmp .eq 192, 3) := by decide +kernel
theorem dL_law_1802 : decode cL_law 1802 = .ok (.aload_n 1, 1) := by decide +kernel
theorem dL_law_1803 : decode cL_law 1803 = .ok (.aload_n 0, 1) := by decide +kernel
theorem dL_law_1804 : decode cL_law 1804 = .ok (.iload_n 3, 1) := by decide +kernel
theorem dL_law_1805 : decode cL_law 1805 = .ok (.iconst 1, 1) := by decide +kernel
theorem dL_law_1806 : decode cL_law 1806 = .ok (.iadd, 1) := by decide +kernel
theorem dL_law_1807 : decode cL_law 1807 = .ok (.iaload, 1) := by decide +kernel
theorem dL_law_1808 : decode cL_law 1808 = .ok (.invokevirtual 211, 3) := by decide +kernel
theorem dL_law_1811 : decode cL_law 1811 = .ok (.aload_n 2, 1) := by decide +kernel
theorem dL_law_1812 : decode cL_law 1812 = .ok (.aload_n 0, 1) := by decide +kernel
theorem dL_law_1813 : decode cL_law 1813 = .ok (.iload_n 3, 1) := by decide +kernel
theorem dL_law_1814 : decode cL_law 1814 = .ok (.iconst 1, 1) := by decide +kernel
theorem dL_law_1815 : decode cL_law 1815 = .ok (.iadd, 1) := by decide +kernel
theorem dL_law_1816 : decode cL_law 1816 = .ok (.iaload, 1) := by decide +kernel
theorem dL_law_1817 : decode cL_law 1817 = .ok (.invokevirtual 214, 3) := by decide +kernel
theorem dL_law_1820 : decode cL_law 1820 = .ok (.if_icmp .eq 169, 3) := by decide +kernel
theorem dL_law_1825 : decode cL_law 1825 = .ok (.aload_n 1, 1) := by decide +kernel
theorem dL_law_1826 : decode cL_law 1826 = .ok (.aload_n 0, 1) := by decide +kernel
theorem dL_law_1827 : decode cL_law 1827 = .ok (.iload_n 3, 1) := by decide +kernel
theorem dL_law_1828 : decode cL_law 1828 = .ok (.iconst 1, 1) := by decide +kernel
theorem dL_law_1829 : decode cL_law 1829 = .ok (.iadd, 1) := by decide +kernel
theorem dL_law_1830 : decode cL_law 1830 = .ok (.iaload, 1) := by decide +kernel
theorem dL_law_1831 : decode cL_law 1831 = .ok (.invokevirtual 215, 3) := by decide +kernel
theorem dL_law_1834 : decode cL_law 1834 = .ok (.aload_n 2, 1) := by decide +kernel
theorem dL_law_1835 : decode cL_law 1835 = .ok (.aload_n 0, 1) := by decide +kernel
