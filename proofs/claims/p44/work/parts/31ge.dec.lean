theorem dyL_law_1638 : decode cL_law 1638 = .ok (.bipush 9, 2) := by decide +kernel
theorem dyL_law_1640 : decode cL_law 1640 = .ok (.invokevirtual 36, 3) := by decide +kernel
theorem dyL_law_1643 : decode cL_law 1643 = .ok (.istore 7, 2) := by decide +kernel
theorem dyL_law_1645 : decode cL_law 1645 = .ok (.iconst 0, 1) := by decide +kernel
theorem dyL_law_1646 : decode cL_law 1646 = .ok (.istore 8, 2) := by decide +kernel
theorem dyL_law_1648 : decode cL_law 1648 = .ok (.iload 8, 2) := by decide +kernel
theorem dyL_law_1650 : decode cL_law 1650 = .ok (.iload 6, 2) := by decide +kernel
theorem dyL_law_1652 : decode cL_law 1652 = .ok (.if_icmp .ge 40, 3) := by decide +kernel
theorem dyL_law_1655 : decode cL_law 1655 = .ok (.iload_n 3, 1) := by decide +kernel
theorem dyL_law_1656 : decode cL_law 1656 = .ok (.ifCond .eq 36, 3) := by decide +kernel
theorem dyL_law_1659 : decode cL_law 1659 = .ok (.aload_n 2, 1) := by decide +kernel
theorem dyL_law_1660 : decode cL_law 1660 = .ok (.invokevirtual 89, 3) := by decide +kernel
theorem dyL_law_1663 : decode cL_law 1663 = .ok (.ifCond .eq 21, 3) := by decide +kernel
theorem dyL_law_1666 : decode cL_law 1666 = .ok (.iload 8, 2) := by decide +kernel
theorem dyL_law_1668 : decode cL_law 1668 = .ok (.iconst 4, 1) := by decide +kernel
theorem dyL_law_1669 : decode cL_law 1669 = .ok (.irem, 1) := by decide +kernel
theorem dyL_law_1670 : decode cL_law 1670 = .ok (.ifCond .gt 10, 3) := by decide +kernel
theorem dyL_law_1673 : decode cL_law 1673 = .ok (.aload_n 2, 1) := by decide +kernel
theorem dyL_law_1674 : decode cL_law 1674 = .ok (.invokestatic 141, 3) := by decide +kernel
theorem dyL_law_1677 : decode cL_law 1677 = .ok (.ifCond .eq 7, 3) := by decide +kernel
theorem dyL_law_1680 : decode cL_law 1680 = .ok (.iconst 1, 1) := by decide +kernel
theorem dyL_law_1681 : decode cL_law 1681 = .ok (.goto 4, 3) := by decide +kernel
theorem dyL_law_1684 : decode cL_law 1684 = .ok (.iconst 0, 1) := by decide +kernel
theorem dyL_law_1685 : decode cL_law 1685 = .ok (.istore_n 3, 1) := by decide +kernel
theorem dyL_law_1686 : decode cL_law 1686 = .ok (.iinc 8 1, 3) := by decide +kernel
theorem dyL_law_1689 : decode cL_law 1689 = .ok (.goto (-41), 3) := by decide +kernel
theorem dyL_law_1692 : decode cL_law 1692 = .ok (.iload_n 3, 1) := by decide +kernel
theorem dyL_law_1693 : decode cL_law 1693 = .ok (.ifCond .eq 28, 3) := by decide +kernel
theorem dyL_law_1696 : decode cL_law 1696 = .ok (.aload_n 2, 1) := by decide +kernel
theorem dyL_law_1697 : decode cL_law 1697 = .ok (.invokevirtual 89, 3) := by decide +kernel
theorem dyL_law_1700 : decode cL_law 1700 = .ok (.ifCond .ne 21, 3) := by decide +kernel
theorem dyL_law_1703 : decode cL_law 1703 = .ok (.aload_n 2, 1) := by decide +kernel
theorem dyL_law_1704 : decode cL_law 1704 = .ok (.bipush 9, 2) := by decide +kernel
theorem dyL_law_1706 : decode cL_law 1706 = .ok (.invokevirtual 36, 3) := by decide +kernel
theorem dyL_law_1709 : decode cL_law 1709 = .ok (.iload 6, 2) := by decide +kernel
theorem dyL_law_1711 : decode cL_law 1711 = .ok (.iload 7, 2) := by decide +kernel
theorem dyL_law_1713 : decode cL_law 1713 = .ok (.iadd, 1) := by decide +kernel
theorem dyL_law_1714 : decode cL_law 1714 = .ok (.if_icmp .ne 7, 3) := by decide +kernel
theorem dyL_law_1717 : decode cL_law 1717 = .ok (.iconst 1, 1) := by decide +kernel
theorem dyL_law_1718 : decode cL_law 1718 = .ok (.goto 4, 3) := by decide +kernel
theorem dyL_law_1721 : decode cL_law 1721 = .ok (.iconst 0, 1) := by decide +kernel
theorem dyL_law_1722 : decode cL_law 1722 = .ok (.istore_n 3, 1) := by decide +kernel
theorem dyL_law_1723 : decode cL_law 1723 = .ok (.iconst 0, 1) := by decide +kernel
theorem dyL_law_1724 : decode cL_law 1724 = .ok (.istore 8, 2) := by decide +kernel
theorem dyL_law_1726 : decode cL_law 1726 = .ok (.iload 8, 2) := by decide +kernel
theorem dyL_law_1728 : decode cL_law 1728 = .ok (.iload 6, 2) := by decide +kernel
theorem dyL_law_1730 : decode cL_law 1730 = .ok (.if_icmp .ge 18, 3) := by decide +kernel
theorem dyL_law_1733 : decode cL_law 1733 = .ok (.iload_n 3, 1) := by decide +kernel
theorem dyL_law_1734 : decode cL_law 1734 = .ok (.ifCond .eq 14, 3) := by decide +kernel
theorem dyL_law_1737 : decode cL_law 1737 = .ok (.aload_n 2, 1) := by decide +kernel
theorem dyL_law_1738 : decode cL_law 1738 = .ok (.invokevirtual 93, 3) := by decide +kernel
theorem dyL_law_1741 : decode cL_law 1741 = .ok (.istore_n 3, 1) := by decide +kernel
theorem dyL_law_1742 : decode cL_law 1742 = .ok (.iinc 8 1, 3) := by decide +kernel
theorem dyL_law_1745 : decode cL_law 1745 = .ok (.goto (-19), 3) := by decide +kernel
theorem dyL_law_1748 : decode cL_law 1748 = .ok (.iload_n 3, 1) := by decide +kernel
theorem dyL_law_1749 : decode cL_law 1749 = .ok (.ifCond .eq 38, 3) := by decide +kernel
theorem dyL_law_1752 : decode cL_law 1752 = .ok (.aload_n 2, 1) := by decide +kernel
theorem dyL_law_1753 : decode cL_law 1753 = .ok (.iconst 4, 1) := by decide +kernel
theorem dyL_law_1754 : decode cL_law 1754 = .ok (.invokevirtual 36, 3) := by decide +kernel
theorem dyL_law_1757 : decode cL_law 1757 = .ok (.iload 4, 2) := by decide +kernel
theorem dyL_law_1759 : decode cL_law 1759 = .ok (.if_icmp .ne 28, 3) := by decide +kernel
theorem dyL_law_1762 : decode cL_law 1762 = .ok (.aload_n 2, 1) := by decide +kernel
theorem dyL_law_1763 : decode cL_law 1763 = .ok (.iconst 0, 1) := by decide +kernel
theorem dyL_law_1764 : decode cL_law 1764 = .ok (.invokevirtual 36, 3) := by decide +kernel
theorem dyL_law_1767 : decode cL_law 1767 = .ok (.iload 5, 2) := by decide +kernel
theorem dyL_law_1769 : decode cL_law 1769 = .ok (.if_icmp .ne 18, 3) := by decide +kernel
theorem dyL_law_1772 : decode cL_law 1772 = .ok (.aload_n 2, 1) := by decide +kernel
theorem dyL_law_1773 : decode cL_law 1773 = .ok (.bipush 9, 2) := by decide +kernel
theorem dyL_law_1775 : decode cL_law 1775 = .ok (.invokevirtual 36, 3) := by decide +kernel
theorem dyL_law_1778 : decode cL_law 1778 = .ok (.iload 7, 2) := by decide +kernel
theorem dyL_law_1780 : decode cL_law 1780 = .ok (.if_icmp .ne 7, 3) := by decide +kernel
theorem dyL_law_1783 : decode cL_law 1783 = .ok (.iconst 1, 1) := by decide +kernel
theorem dyL_law_1784 : decode cL_law 1784 = .ok (.goto 4, 3) := by decide +kernel
theorem dyL_law_1787 : decode cL_law 1787 = .ok (.iconst 0, 1) := by decide +kernel
theorem dyL_law_1788 : decode cL_law 1788 = .ok (.istore_n 3, 1) := by decide +kernel
theorem dyL_law_1789 : decode cL_law 1789 = .ok (.iload_n 3, 1) := by decide +kernel
theorem dyL_law_1790 : decode cL_law 1790 = .ok (.ifCond .eq 274, 3) := by decide +kernel
theorem dyL_law_1793 : decode cL_law 1793 = .ok (.aload_n 2, 1) := by decide +kernel
theorem dyL_law_1794 : decode cL_law 1794 = .ok (.iconst 2, 1) := by decide +kernel
theorem dyL_law_1795 : decode cL_law 1795 = .ok (.invokevirtual 36, 3) := by decide +kernel
theorem dyL_law_1798 : decode cL_law 1798 = .ok (.ifCond .ne 266, 3) := by decide +kernel
theorem dyL_law_1801 : decode cL_law 1801 = .ok (.aload_n 2, 1) := by decide +kernel
theorem dyL_law_1802 : decode cL_law 1802 = .ok (.invokestatic 86, 3) := by decide +kernel
theorem dyL_law_1805 : decode cL_law 1805 = .ok (.astore 8, 2) := by decide +kernel
theorem dyL_law_1807 : decode cL_law 1807 = .ok (.aload_n 2, 1) := by decide +kernel
theorem dyL_law_1808 : decode cL_law 1808 = .ok (.iconst 0, 1) := by decide +kernel
theorem dyL_law_1809 : decode cL_law 1809 = .ok (.invokevirtual 145, 3) := by decide +kernel
theorem dyL_law_1812 : decode cL_law 1812 = .ok (.istore 9, 2) := by decide +kernel
theorem dyL_law_1814 : decode cL_law 1814 = .ok (.aload_n 2, 1) := by decide +kernel
theorem dyL_law_1815 : decode cL_law 1815 = .ok (.iconst 1, 1) := by decide +kernel
theorem dyL_law_1816 : decode cL_law 1816 = .ok (.invokevirtual 145, 3) := by decide +kernel
theorem dyL_law_1819 : decode cL_law 1819 = .ok (.istore 10, 2) := by decide +kernel
theorem dyL_law_1821 : decode cL_law 1821 = .ok (.aload_n 2, 1) := by decide +kernel
theorem dyL_law_1822 : decode cL_law 1822 = .ok (.iconst 1, 1) := by decide +kernel
theorem dyL_law_1823 : decode cL_law 1823 = .ok (.invokevirtual 36, 3) := by decide +kernel
theorem dyL_law_1826 : decode cL_law 1826 = .ok (.istore 11, 2) := by decide +kernel
theorem dyL_law_1828 : decode cL_law 1828 = .ok (.aload 8, 2) := by decide +kernel
theorem dyL_law_1830 : decode cL_law 1830 = .ok (.invokestatic 127, 3) := by decide +kernel
theorem dyL_law_1833 : decode cL_law 1833 = .ok (.invokestatic 130, 3) := by decide +kernel
theorem dyL_law_1836 : decode cL_law 1836 = .ok (.astore 12, 2) := by decide +kernel
theorem dyL_law_1838 : decode cL_law 1838 = .ok (.iload 9, 2) := by decide +kernel
theorem dyL_law_1840 : decode cL_law 1840 = .ok (.ifCond .lt 20, 3) := by decide +kernel
theorem dyL_law_1843 : decode cL_law 1843 = .ok (.iload 10, 2) := by decide +kernel
theorem dyL_law_1845 : decode cL_law 1845 = .ok (.ifCond .le 15, 3) := by decide +kernel
theorem dyL_law_1848 : decode cL_law 1848 = .ok (.aload 12, 2) := by decide +kernel
theorem dyL_law_1850 : decode cL_law 1850 = .ok (.invokestatic 134, 3) := by decide +kernel
theorem dyL_law_1853 : decode cL_law 1853 = .ok (.ifCond .lt 7, 3) := by decide +kernel
theorem dyL_law_1856 : decode cL_law 1856 = .ok (.iconst 1, 1) := by decide +kernel
theorem dyL_law_1857 : decode cL_law 1857 = .ok (.goto 4, 3) := by decide +kernel
theorem dyL_law_1860 : decode cL_law 1860 = .ok (.iconst 0, 1) := by decide +kernel
theorem dyL_law_1861 : decode cL_law 1861 = .ok (.istore_n 3, 1) := by decide +kernel
theorem dyL_law_1862 : decode cL_law 1862 = .ok (.aload_n 2, 1) := by decide +kernel
theorem dyL_law_1863 : decode cL_law 1863 = .ok (.iload 9, 2) := by decide +kernel
theorem dyL_law_1865 : decode cL_law 1865 = .ok (.iconst 1, 1) := by decide +kernel
theorem dyL_law_1866 : decode cL_law 1866 = .ok (.invokevirtual 108, 3) := by decide +kernel
theorem dyL_law_1869 : decode cL_law 1869 = .ok (.istore 13, 2) := by decide +kernel
theorem dyL_law_1871 : decode cL_law 1871 = .ok (.aload_n 2, 1) := by decide +kernel
theorem dyL_law_1872 : decode cL_law 1872 = .ok (.iload 9, 2) := by decide +kernel
theorem dyL_law_1874 : decode cL_law 1874 = .ok (.iload 10, 2) := by decide +kernel
theorem dyL_law_1876 : decode cL_law 1876 = .ok (.iadd, 1) := by decide +kernel
theorem dyL_law_1877 : decode cL_law 1877 = .ok (.iconst 1, 1) := by decide +kernel
theorem dyL_law_1878 : decode cL_law 1878 = .ok (.isub, 1) := by decide +kernel
theorem dyL_law_1879 : decode cL_law 1879 = .ok (.iconst 1, 1) := by decide +kernel
theorem dyL_law_1880 : decode cL_law 1880 = .ok (.invokevirtual 108, 3) := by decide +kernel
theorem dyL_law_1883 : decode cL_law 1883 = .ok (.aload_n 2, 1) := by decide +kernel
theorem dyL_law_1884 : decode cL_law 1884 = .ok (.iload 9, 2) := by decide +kernel
theorem dyL_law_1886 : decode cL_law 1886 = .ok (.iload 10, 2) := by decide +kernel
theorem dyL_law_1888 : decode cL_law 1888 = .ok (.iadd, 1) := by decide +kernel
theorem dyL_law_1889 : decode cL_law 1889 = .ok (.iconst 1, 1) := by decide +kernel
theorem dyL_law_1890 : decode cL_law 1890 = .ok (.isub, 1) := by decide +kernel
theorem dyL_law_1891 : decode cL_law 1891 = .ok (.iconst 2, 1) := by decide +kernel
theorem dyL_law_1892 : decode cL_law 1892 = .ok (.invokevirtual 108, 3) := by decide +kernel
theorem dyL_law_1895 : decode cL_law 1895 = .ok (.iadd, 1) := by decide +kernel
theorem dyL_law_1896 : decode cL_law 1896 = .ok (.istore 14, 2) := by decide +kernel
theorem dyL_law_1898 : decode cL_law 1898 = .ok (.aload_n 2, 1) := by decide +kernel
theorem dyL_law_1899 : decode cL_law 1899 = .ok (.iconst 0, 1) := by decide +kernel
theorem dyL_law_1900 : decode cL_law 1900 = .ok (.invokevirtual 148, 3) := by decide +kernel
theorem dyL_law_1903 : decode cL_law 1903 = .ok (.istore 15, 2) := by decide +kernel
theorem dyL_law_1905 : decode cL_law 1905 = .ok (.aload_n 2, 1) := by decide +kernel
theorem dyL_law_1906 : decode cL_law 1906 = .ok (.iconst 1, 1) := by decide +kernel
theorem dyL_law_1907 : decode cL_law 1907 = .ok (.invokevirtual 148, 3) := by decide +kernel
theorem dyL_law_1910 : decode cL_law 1910 = .ok (.istore 16, 2) := by decide +kernel
theorem dyL_law_1912 : decode cL_law 1912 = .ok (.iload_n 3, 1) := by decide +kernel
theorem dyL_law_1913 : decode cL_law 1913 = .ok (.ifCond .eq 65, 3) := by decide +kernel
theorem dyL_law_1916 : decode cL_law 1916 = .ok (.iload 15, 2) := by decide +kernel
theorem dyL_law_1918 : decode cL_law 1918 = .ok (.bipush (-2), 2) := by decide +kernel
theorem dyL_law_1920 : decode cL_law 1920 = .ok (.if_icmp .ne 7, 3) := by decide +kernel
theorem dyL_law_1923 : decode cL_law 1923 = .ok (.iconst 1, 1) := by decide +kernel
theorem dyL_law_1924 : decode cL_law 1924 = .ok (.goto 4, 3) := by decide +kernel
theorem dyL_law_1927 : decode cL_law 1927 = .ok (.iconst 0, 1) := by decide +kernel
theorem dyL_law_1928 : decode cL_law 1928 = .ok (.iload 16, 2) := by decide +kernel
theorem dyL_law_1930 : decode cL_law 1930 = .ok (.bipush (-2), 2) := by decide +kernel
theorem dyL_law_1932 : decode cL_law 1932 = .ok (.if_icmp .ne 7, 3) := by decide +kernel
theorem dyL_law_1935 : decode cL_law 1935 = .ok (.iconst 1, 1) := by decide +kernel
theorem dyL_law_1936 : decode cL_law 1936 = .ok (.goto 4, 3) := by decide +kernel
theorem dyL_law_1939 : decode cL_law 1939 = .ok (.iconst 0, 1) := by decide +kernel
theorem dyL_law_1940 : decode cL_law 1940 = .ok (.if_icmp .ne 38, 3) := by decide +kernel
theorem dyL_law_1943 : decode cL_law 1943 = .ok (.iload 15, 2) := by decide +kernel
theorem dyL_law_1945 : decode cL_law 1945 = .ok (.iload 11, 2) := by decide +kernel
theorem dyL_law_1947 : decode cL_law 1947 = .ok (.if_icmp .ge 31, 3) := by decide +kernel
theorem dyL_law_1950 : decode cL_law 1950 = .ok (.iload 16, 2) := by decide +kernel
theorem dyL_law_1952 : decode cL_law 1952 = .ok (.bipush 10, 2) := by decide +kernel
theorem dyL_law_1954 : decode cL_law 1954 = .ok (.if_icmp .ge 24, 3) := by decide +kernel
theorem dyL_law_1957 : decode cL_law 1957 = .ok (.aload_n 2, 1) := by decide +kernel
theorem dyL_law_1958 : decode cL_law 1958 = .ok (.invokevirtual 151, 3) := by decide +kernel
theorem dyL_law_1961 : decode cL_law 1961 = .ok (.ifCond .lt 17, 3) := by decide +kernel
theorem dyL_law_1964 : decode cL_law 1964 = .ok (.aload_n 2, 1) := by decide +kernel
theorem dyL_law_1965 : decode cL_law 1965 = .ok (.invokevirtual 151, 3) := by decide +kernel
theorem dyL_law_1968 : decode cL_law 1968 = .ok (.sipush 2048, 3) := by decide +kernel
theorem dyL_law_1971 : decode cL_law 1971 = .ok (.if_icmp .ge 7, 3) := by decide +kernel
theorem dyL_law_1974 : decode cL_law 1974 = .ok (.iconst 1, 1) := by decide +kernel
theorem dyL_law_1975 : decode cL_law 1975 = .ok (.goto 4, 3) := by decide +kernel
theorem dyL_law_1978 : decode cL_law 1978 = .ok (.iconst 0, 1) := by decide +kernel
theorem dyL_law_1979 : decode cL_law 1979 = .ok (.istore_n 3, 1) := by decide +kernel
theorem dyL_law_1980 : decode cL_law 1980 = .ok (.aload_n 2, 1) := by decide +kernel
theorem dyL_law_1981 : decode cL_law 1981 = .ok (.iconst 1, 1) := by decide +kernel
theorem dyL_law_1982 : decode cL_law 1982 = .ok (.newarray .int, 2) := by decide +kernel
theorem dyL_law_1984 : decode cL_law 1984 = .ok (.dup, 1) := by decide +kernel
theorem dyL_law_1985 : decode cL_law 1985 = .ok (.iconst 0, 1) := by decide +kernel
theorem dyL_law_1986 : decode cL_law 1986 = .ok (.bipush 32, 2) := by decide +kernel
theorem dyL_law_1988 : decode cL_law 1988 = .ok (.iastore, 1) := by decide +kernel
theorem dyL_law_1989 : decode cL_law 1989 = .ok (.invokestatic 77, 3) := by decide +kernel
theorem dyL_law_1992 : decode cL_law 1992 = .ok (.aload_n 2, 1) := by decide +kernel
theorem dyL_law_1993 : decode cL_law 1993 = .ok (.iload 13, 2) := by decide +kernel
theorem dyL_law_1995 : decode cL_law 1995 = .ok (.iload 14, 2) := by decide +kernel
theorem dyL_law_1997 : decode cL_law 1997 = .ok (.iload 13, 2) := by decide +kernel
theorem dyL_law_1999 : decode cL_law 1999 = .ok (.isub, 1) := by decide +kernel
theorem dyL_law_2000 : decode cL_law 2000 = .ok (.invokevirtual 65, 3) := by decide +kernel
theorem dyL_law_2003 : decode cL_law 2003 = .ok (.istore 17, 2) := by decide +kernel
theorem dyL_law_2005 : decode cL_law 2005 = .ok (.iload_n 3, 1) := by decide +kernel
theorem dyL_law_2006 : decode cL_law 2006 = .ok (.ifCond .eq 56, 3) := by decide +kernel
theorem dyL_law_2009 : decode cL_law 2009 = .ok (.iload 17, 2) := by decide +kernel
theorem dyL_law_2011 : decode cL_law 2011 = .ok (.ifCond .eq 16, 3) := by decide +kernel
theorem dyL_law_2014 : decode cL_law 2014 = .ok (.iload 17, 2) := by decide +kernel
theorem dyL_law_2016 : decode cL_law 2016 = .ok (.ifCond .ge 46, 3) := by decide +kernel
theorem dyL_law_2019 : decode cL_law 2019 = .ok (.aload_n 2, 1) := by decide +kernel
theorem dyL_law_2020 : decode cL_law 2020 = .ok (.iconst 1, 1) := by decide +kernel
theorem dyL_law_2021 : decode cL_law 2021 = .ok (.invokevirtual 13, 3) := by decide +kernel
theorem dyL_law_2024 : decode cL_law 2024 = .ok (.ifCond .ne 38, 3) := by decide +kernel
theorem dyL_law_2027 : decode cL_law 2027 = .ok (.aload_n 2, 1) := by decide +kernel
theorem dyL_law_2028 : decode cL_law 2028 = .ok (.invokevirtual 89, 3) := by decide +kernel
theorem dyL_law_2031 : decode cL_law 2031 = .ok (.iload 17, 2) := by decide +kernel
theorem dyL_law_2033 : decode cL_law 2033 = .ok (.ifCond .eq 8, 3) := by decide +kernel
theorem dyL_law_2036 : decode cL_law 2036 = .ok (.iload 6, 2) := by decide +kernel
theorem dyL_law_2038 : decode cL_law 2038 = .ok (.ifCond .le 7, 3) := by decide +kernel
theorem dyL_law_2041 : decode cL_law 2041 = .ok (.iconst 1, 1) := by decide +kernel
theorem dyL_law_2042 : decode cL_law 2042 = .ok (.goto 4, 3) := by decide +kernel
theorem dyL_law_2045 : decode cL_law 2045 = .ok (.iconst 0, 1) := by decide +kernel
theorem dyL_law_2046 : decode cL_law 2046 = .ok (.if_icmp .ne 16, 3) := by decide +kernel
theorem dyL_law_2049 : decode cL_law 2049 = .ok (.aload_n 2, 1) := by decide +kernel
