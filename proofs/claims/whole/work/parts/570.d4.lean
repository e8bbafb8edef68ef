theorem dL_law_1794 : decode cL_law 1794 = .ok (.aload_n 0, 1) := by decide +kernel
theorem dL_law_1795 : decode cL_law 1795 = .ok (.iload 4, 2) := by decide +kernel
theorem dL_law_1797 : decode cL_law 1797 = .ok (.bipush 7, 2) := by decide +kernel
theorem dL_law_1799 : decode cL_law 1799 = .ok (.iadd, 1) := by decide +kernel
theorem dL_law_1800 : decode cL_law 1800 = .ok (.iaload, 1) := by decide +kernel
theorem dL_law_1801 : decode cL_law 1801 = .ok (.aload_n 0, 1) := by decide +kernel
theorem dL_law_1802 : decode cL_law 1802 = .ok (.iload 4, 2) := by decide +kernel
theorem dL_law_1804 : decode cL_law 1804 = .ok (.bipush 8, 2) := by decide +kernel
theorem dL_law_1806 : decode cL_law 1806 = .ok (.iadd, 1) := by decide +kernel
theorem dL_law_1807 : decode cL_law 1807 = .ok (.iaload, 1) := by decide +kernel
theorem dL_law_1808 : decode cL_law 1808 = .ok (.aload_n 3, 1) := by decide +kernel
theorem dL_law_1809 : decode cL_law 1809 = .ok (.invokestatic 147, 3) := by decide +kernel
theorem dL_law_1812 : decode cL_law 1812 = .ok (.istore 5, 2) := by decide +kernel
theorem dL_law_1814 : decode cL_law 1814 = .ok (.aload_n 2, 1) := by decide +kernel
theorem dL_law_1815 : decode cL_law 1815 = .ok (.aload_n 0, 1) := by decide +kernel
theorem dL_law_1816 : decode cL_law 1816 = .ok (.iload 4, 2) := by decide +kernel
theorem dL_law_1818 : decode cL_law 1818 = .ok (.iconst 1, 1) := by decide +kernel
theorem dL_law_1819 : decode cL_law 1819 = .ok (.iadd, 1) := by decide +kernel
theorem dL_law_1820 : decode cL_law 1820 = .ok (.iaload, 1) := by decide +kernel
theorem dL_law_1821 : decode cL_law 1821 = .ok (.aload_n 0, 1) := by decide +kernel
theorem dL_law_1822 : decode cL_law 1822 = .ok (.iload 4, 2) := by decide +kernel
theorem dL_law_1824 : decode cL_law 1824 = .ok (.iconst 2, 1) := by decide +kernel
theorem dL_law_1825 : decode cL_law 1825 = .ok (.iadd, 1) := by decide +kernel
theorem dL_law_1826 : decode cL_law 1826 = .ok (.iaload, 1) := by decide +kernel
theorem dL_law_1827 : decode cL_law 1827 = .ok (.aload_n 0, 1) := by decide +kernel
theorem dL_law_1828 : decode cL_law 1828 = .ok (.iload 4, 2) := by decide +kernel
theorem dL_law_1830 : decode cL_law 1830 = .ok (.iconst 3, 1) := by decide +kernel
theorem dL_law_1831 : decode cL_law 1831 = .ok (.iadd, 1) := by decide +kernel
theorem dL_law_1832 : decode cL_law 1832 = .ok (.iaload, 1) := by decide +kernel
theorem dL_law_1833 : decode cL_law 1833 = .ok (.aload_n 0, 1) := by decide +kernel
theorem dL_law_1834 : decode cL_law 1834 = .ok (.iload 4, 2) := by decide +kernel
theorem dL_law_1836 : decode cL_law 1836 = .ok (.iconst 4, 1) := by decide +kernel
theorem dL_law_1837 : decode cL_law 1837 = .ok (.iadd, 1) := by decide +kernel
theorem dL_law_1838 : decode cL_law 1838 = .ok (.iaload, 1) := by decide +kernel
theorem dL_law_1839 : decode cL_law 1839 = .ok (.aload_n 0, 1) := by decide +kernel
theorem dL_law_1840 : decode cL_law 1840 = .ok (.iload 4, 2) := by decide +kernel
theorem dL_law_1842 : decode cL_law 1842 = .ok (.iconst 5, 1) := by decide +kernel
theorem dL_law_1843 : decode cL_law 1843 = .ok (.iadd, 1) := by decide +kernel
theorem dL_law_1844 : decode cL_law 1844 = .ok (.iaload, 1) := by decide +kernel
theorem dL_law_1845 : decode cL_law 1845 = .ok (.aload_n 0, 1) := by decide +kernel
theorem dL_law_1846 : decode cL_law 1846 = .ok (.iload 4, 2) := by decide +kernel
theorem dL_law_1848 : decode cL_law 1848 = .ok (.bipush 6, 2) := by decide +kernel
theorem dL_law_1850 : decode cL_law 1850 = .ok (.iadd, 1) := by decide +kernel
theorem dL_law_1851 : decode cL_law 1851 = .ok (.iaload, 1) := by decide +kernel
theorem dL_law_1852 : decode cL_law 1852 = .ok (.aload_n 0, 1) := by decide +kernel
theorem dL_law_1853 : decode cL_law 1853 = .ok (.iload 4, 2) := by decide +kernel
theorem dL_law_1855 : decode cL_law 1855 = .ok (.bipush 7, 2) := by decide +kernel
theorem dL_law_1857 : decode cL_law 1857 = .ok (.iadd, 1) := by decide +kernel
theorem dL_law_1858 : decode cL_law 1858 = .ok (.iaload, 1) := by decide +kernel
theorem dL_law_1859 : decode cL_law 1859 = .ok (.aload_n 0, 1) := by decide +kernel
theorem dL_law_1860 : decode cL_law 1860 = .ok (.iload 4, 2) := by decide +kernel
theorem dL_law_1862 : decode cL_law 1862 = .ok (.bipush 8, 2) := by decide +kernel
theorem dL_law_1864 : decode cL_law 1864 = .ok (.iadd, 1) := by decide +kernel
theorem dL_law_1865 : decode cL_law 1865 = .ok (.iaload, 1) := by decide +kernel
theorem dL_law_1866 : decode cL_law 1866 = .ok (.invokevirtual 149, 3) := by decide +kernel
theorem dL_law_1869 : decode cL_law 1869 = .ok (.istore 6, 2) := by decide +kernel
theorem dL_law_1871 : decode cL_law 1871 = .ok (.aload_n 2, 1) := by decide +kernel
theorem dL_law_1872 : decode cL_law 1872 = .ok (.invokevirtual 98, 3) := by decide +kernel
theorem dL_law_1875 : decode cL_law 1875 = .ok (.iload 5, 2) := by decide +kernel
theorem dL_law_1877 : decode cL_law 1877 = .ok (.if_icmp .eq 5, 3) := by decide +kernel
theorem dL_law_1880 : decode cL_law 1880 = .ok (.iconst 0, 1) := by decide +kernel
theorem dL_law_1881 : decode cL_law 1881 = .ok (.ireturn, 1) := by decide +kernel
theorem dL_law_1882 : decode cL_law 1882 = .ok (.iload 5, 2) := by decide +kernel
theorem dL_law_1884 : decode cL_law 1884 = .ok (.ifCond .ne 15, 3) := by decide +kernel
theorem dL_law_1887 : decode cL_law 1887 = .ok (.aload_n 3, 1) := by decide +kernel
theorem dL_law_1888 : decode cL_law 1888 = .ok (.iconst 0, 1) := by decide +kernel
theorem dL_law_1889 : decode cL_law 1889 = .ok (.laload, 1) := by decide +kernel
theorem dL_law_1890 : decode cL_law 1890 = .ok (.iload 6, 2) := by decide +kernel
theorem dL_law_1892 : decode cL_law 1892 = .ok (.i2l, 1) := by decide +kernel
theorem dL_law_1893 : decode cL_law 1893 = .ok (.lcmp, 1) := by decide +kernel
theorem dL_law_1894 : decode cL_law 1894 = .ok (.ifCond .eq 5, 3) := by decide +kernel
theorem dL_law_1897 : decode cL_law 1897 = .ok (.iconst 0, 1) := by decide +kernel
theorem dL_law_1898 : decode cL_law 1898 = .ok (.ireturn, 1) := by decide +kernel
theorem dL_law_1899 : decode cL_law 1899 = .ok (.goto 1423, 3) := by decide +kernel
theorem dL_law_1902 : decode cL_law 1902 = .ok (.aload_n 1, 1) := by decide +kernel
theorem dL_law_1903 : decode cL_law 1903 = .ok (.aload_n 0, 1) := by decide +kernel
theorem dL_law_1904 : decode cL_law 1904 = .ok (.iload 4, 2) := by decide +kernel
theorem dL_law_1906 : decode cL_law 1906 = .ok (.iconst 1, 1) := by decide +kernel
theorem dL_law_1907 : decode cL_law 1907 = .ok (.iadd, 1) := by decide +kernel
theorem dL_law_1908 : decode cL_law 1908 = .ok (.iaload, 1) := by decide +kernel
theorem dL_law_1909 : decode cL_law 1909 = .ok (.invokevirtual 150, 3) := by decide +kernel
theorem dL_law_1912 : decode cL_law 1912 = .ok (.aload_n 2, 1) := by decide +kernel
theorem dL_law_1913 : decode cL_law 1913 = .ok (.aload_n 0, 1) := by decide +kernel
theorem dL_law_1914 : decode cL_law 1914 = .ok (.iload 4, 2) := by decide +kernel
theorem dL_law_1916 : decode cL_law 1916 = .ok (.iconst 1, 1) := by decide +kernel
theorem dL_law_1917 : decode cL_law 1917 = .ok (.iadd, 1) := by decide +kernel
theorem dL_law_1918 : decode cL_law 1918 = .ok (.iaload, 1) := by decide +kernel
theorem dL_law_1919 : decode cL_law 1919 = .ok (.invokevirtual 154, 3) := by decide +kernel
theorem dL_law_1922 : decode cL_law 1922 = .ok (.if_icmp .eq 1400, 3) := by decide +kernel
theorem dL_law_1925 : decode cL_law 1925 = .ok (.iconst 0, 1) := by decide +kernel
theorem dL_law_1926 : decode cL_law 1926 = .ok (.ireturn, 1) := by decide +kernel
theorem dL_law_1927 : decode cL_law 1927 = .ok (.aload_n 1, 1) := by decide +kernel
theorem dL_law_1928 : decode cL_law 1928 = .ok (.aload_n 0, 1) := by decide +kernel
theorem dL_law_1929 : decode cL_law 1929 = .ok (.iload 4, 2) := by decide +kernel
theorem dL_law_1931 : decode cL_law 1931 = .ok (.iconst 1, 1) := by decide +kernel
theorem dL_law_1932 : decode cL_law 1932 = .ok (.iadd, 1) := by decide +kernel
theorem dL_law_1933 : decode cL_law 1933 = .ok (.iaload, 1) := by decide +kernel
theorem dL_law_1934 : decode cL_law 1934 = .ok (.aload_n 0, 1) := by decide +kernel
theorem dL_law_1935 : decode cL_law 1935 = .ok (.iload 4, 2) := by decide +kernel
theorem dL_law_1937 : decode cL_law 1937 = .ok (.iconst 2, 1) := by decide +kernel
theorem dL_law_1938 : decode cL_law 1938 = .ok (.iadd, 1) := by decide +kernel
theorem dL_law_1939 : decode cL_law 1939 = .ok (.iaload, 1) := by decide +kernel
theorem dL_law_1940 : decode cL_law 1940 = .ok (.aload_n 0, 1) := by decide +kernel
theorem dL_law_1941 : decode cL_law 1941 = .ok (.iload 4, 2) := by decide +kernel
theorem dL_law_1943 : decode cL_law 1943 = .ok (.iconst 3, 1) := by decide +kernel
theorem dL_law_1944 : decode cL_law 1944 = .ok (.iadd, 1) := by decide +kernel
theorem dL_law_1945 : decode cL_law 1945 = .ok (.iaload, 1) := by decide +kernel
theorem dL_law_1946 : decode cL_law 1946 = .ok (.aload_n 0, 1) := by decide +kernel
theorem dL_law_1947 : decode cL_law 1947 = .ok (.iload 4, 2) := by decide +kernel
theorem dL_law_1949 : decode cL_law 1949 = .ok (.iconst 4, 1) := by decide +kernel
theorem dL_law_1950 : decode cL_law 1950 = .ok (.iadd, 1) := by decide +kernel
theorem dL_law_1951 : decode cL_law 1951 = .ok (.iaload, 1) := by decide +kernel
theorem dL_law_1952 : decode cL_law 1952 = .ok (.aload_n 0, 1) := by decide +kernel
theorem dL_law_1953 : decode cL_law 1953 = .ok (.iload 4, 2) := by decide +kernel
theorem dL_law_1955 : decode cL_law 1955 = .ok (.iconst 5, 1) := by decide +kernel
theorem dL_law_1956 : decode cL_law 1956 = .ok (.iadd, 1) := by decide +kernel
theorem dL_law_1957 : decode cL_law 1957 = .ok (.iaload, 1) := by decide +kernel
theorem dL_law_1958 : decode cL_law 1958 = .ok (.invokevirtual 155, 3) := by decide +kernel
theorem dL_law_1961 : decode cL_law 1961 = .ok (.aload_n 2, 1) := by decide +kernel
theorem dL_law_1962 : decode cL_law 1962 = .ok (.aload_n 0, 1) := by decide +kernel
theorem dL_law_1963 : decode cL_law 1963 = .ok (.iload 4, 2) := by decide +kernel
theorem dL_law_1965 : decode cL_law 1965 = .ok (.iconst 1, 1) := by decide +kernel
theorem dL_law_1966 : decode cL_law 1966 = .ok (.iadd, 1) := by decide +kernel
theorem dL_law_1967 : decode cL_law 1967 = .ok (.iaload, 1) := by decide +kernel
theorem dL_law_1968 : decode cL_law 1968 = .ok (.aload_n 0, 1) := by decide +kernel
theorem dL_law_1969 : decode cL_law 1969 = .ok (.iload 4, 2) := by decide +kernel
theorem dL_law_1971 : decode cL_law 1971 = .ok (.iconst 2, 1) := by decide +kernel
theorem dL_law_1972 : decode cL_law 1972 = .ok (.iadd, 1) := by decide +kernel
theorem dL_law_1973 : decode cL_law 1973 = .ok (.iaload, 1) := by decide +kernel
theorem dL_law_1974 : decode cL_law 1974 = .ok (.aload_n 0, 1) := by decide +kernel
theorem dL_law_1975 : decode cL_law 1975 = .ok (.iload 4, 2) := by decide +kernel
theorem dL_law_1977 : decode cL_law 1977 = .ok (.iconst 3, 1) := by decide +kernel
theorem dL_law_1978 : decode cL_law 1978 = .ok (.iadd, 1) := by decide +kernel
theorem dL_law_1979 : decode cL_law 1979 = .ok (.iaload, 1) := by decide +kernel
theorem dL_law_1980 : decode cL_law 1980 = .ok (.aload_n 0, 1) := by decide +kernel
theorem dL_law_1981 : decode cL_law 1981 = .ok (.iload 4, 2) := by decide +kernel
theorem dL_law_1983 : decode cL_law 1983 = .ok (.iconst 4, 1) := by decide +kernel
theorem dL_law_1984 : decode cL_law 1984 = .ok (.iadd, 1) := by decide +kernel
theorem dL_law_1985 : decode cL_law 1985 = .ok (.iaload, 1) := by decide +kernel
theorem dL_law_1986 : decode cL_law 1986 = .ok (.aload_n 0, 1) := by decide +kernel
theorem dL_law_1987 : decode cL_law 1987 = .ok (.iload 4, 2) := by decide +kernel
theorem dL_law_1989 : decode cL_law 1989 = .ok (.iconst 5, 1) := by decide +kernel
theorem dL_law_1990 : decode cL_law 1990 = .ok (.iadd, 1) := by decide +kernel
theorem dL_law_1991 : decode cL_law 1991 = .ok (.iaload, 1) := by decide +kernel
theorem dL_law_1992 : decode cL_law 1992 = .ok (.invokevirtual 158, 3) := by decide +kernel
theorem dL_law_1995 : decode cL_law 1995 = .ok (.if_icmp .eq 1327, 3) := by decide +kernel
theorem dL_law_1998 : decode cL_law 1998 = .ok (.iconst 0, 1) := by decide +kernel
theorem dL_law_1999 : decode cL_law 1999 = .ok (.ireturn, 1) := by decide +kernel
theorem dL_law_2000 : decode cL_law 2000 = .ok (.aload_n 1, 1) := by decide +kernel
theorem dL_law_2001 : decode cL_law 2001 = .ok (.aload_n 0, 1) := by decide +kernel
theorem dL_law_2002 : decode cL_law 2002 = .ok (.iload 4, 2) := by decide +kernel
theorem dL_law_2004 : decode cL_law 2004 = .ok (.iconst 1, 1) := by decide +kernel
theorem dL_law_2005 : decode cL_law 2005 = .ok (.iadd, 1) := by decide +kernel
theorem dL_law_2006 : decode cL_law 2006 = .ok (.iaload, 1) := by decide +kernel
theorem dL_law_2007 : decode cL_law 2007 = .ok (.invokevirtual 159, 3) := by decide +kernel
theorem dL_law_2010 : decode cL_law 2010 = .ok (.aload_n 2, 1) := by decide +kernel
theorem dL_law_2011 : decode cL_law 2011 = .ok (.aload_n 0, 1) := by decide +kernel
theorem dL_law_2012 : decode cL_law 2012 = .ok (.iload 4, 2) := by decide +kernel
theorem dL_law_2014 : decode cL_law 2014 = .ok (.iconst 1, 1) := by decide +kernel
theorem dL_law_2015 : decode cL_law 2015 = .ok (.iadd, 1) := by decide +kernel
theorem dL_law_2016 : decode cL_law 2016 = .ok (.iaload, 1) := by decide +kernel
theorem dL_law_2017 : decode cL_law 2017 = .ok (.invokevirtual 162, 3) := by decide +kernel
theorem dL_law_2020 : decode cL_law 2020 = .ok (.if_icmp .eq 1302, 3) := by decide +kernel
theorem dL_law_2023 : decode cL_law 2023 = .ok (.iconst 0, 1) := by decide +kernel
theorem dL_law_2024 : decode cL_law 2024 = .ok (.ireturn, 1) := by decide +kernel
theorem dL_law_2025 : decode cL_law 2025 = .ok (.aload_n 1, 1) := by decide +kernel
theorem dL_law_2026 : decode cL_law 2026 = .ok (.aload_n 0, 1) := by decide +kernel
theorem dL_law_2027 : decode cL_law 2027 = .ok (.iload 4, 2) := by decide +kernel
theorem dL_law_2029 : decode cL_law 2029 = .ok (.iconst 1, 1) := by decide +kernel
theorem dL_law_2030 : decode cL_law 2030 = .ok (.iadd, 1) := by decide +kernel
theorem dL_law_2031 : decode cL_law 2031 = .ok (.iaload, 1) := by decide +kernel
theorem dL_law_2032 : decode cL_law 2032 = .ok (.aload_n 0, 1) := by decide +kernel
theorem dL_law_2033 : decode cL_law 2033 = .ok (.iload 4, 2) := by decide +kernel
theorem dL_law_2035 : decode cL_law 2035 = .ok (.iconst 2, 1) := by decide +kernel
theorem dL_law_2036 : decode cL_law 2036 = .ok (.iadd, 1) := by decide +kernel
theorem dL_law_2037 : decode cL_law 2037 = .ok (.iaload, 1) := by decide +kernel
theorem dL_law_2038 : decode cL_law 2038 = .ok (.aload_n 0, 1) := by decide +kernel
theorem dL_law_2039 : decode cL_law 2039 = .ok (.iload 4, 2) := by decide +kernel
theorem dL_law_2041 : decode cL_law 2041 = .ok (.iconst 3, 1) := by decide +kernel
theorem dL_law_2042 : decode cL_law 2042 = .ok (.iadd, 1) := by decide +kernel
theorem dL_law_2043 : decode cL_law 2043 = .ok (.iaload, 1) := by decide +kernel
theorem dL_law_2044 : decode cL_law 2044 = .ok (.invokevirtual 163, 3) := by decide +kernel
theorem dL_law_2047 : decode cL_law 2047 = .ok (.aload_n 2, 1) := by decide +kernel
theorem dL_law_2048 : decode cL_law 2048 = .ok (.aload_n 0, 1) := by decide +kernel
theorem dL_law_2049 : decode cL_law 2049 = .ok (.iload 4, 2) := by decide +kernel
theorem dL_law_2051 : decode cL_law 2051 = .ok (.iconst 1, 1) := by decide +kernel
theorem dL_law_2052 : decode cL_law 2052 = .ok (.iadd, 1) := by decide +kernel
theorem dL_law_2053 : decode cL_law 2053 = .ok (.iaload, 1) := by decide +kernel
theorem dL_law_2054 : decode cL_law 2054 = .ok (.aload_n 0, 1) := by decide +kernel
theorem dL_law_2055 : decode cL_law 2055 = .ok (.iload 4, 2) := by decide +kernel
theorem dL_law_2057 : decode cL_law 2057 = .ok (.iconst 2, 1) := by decide +kernel
theorem dL_law_2058 : decode cL_law 2058 = .ok (.iadd, 1) := by decide +kernel
theorem dL_law_2059 : decode cL_law 2059 = .ok (.iaload, 1) := by decide +kernel
theorem dL_law_2060 : decode cL_law 2060 = .ok (.aload_n 0, 1) := by decide +kernel
theorem dL_law_2061 : decode cL_law 2061 = .ok (.iload 4, 2) := by decide +kernel
theorem dL_law_2063 : decode cL_law 2063 = .ok (.iconst 3, 1) := by decide +kernel
theorem dL_law_2064 : decode cL_law 2064 = .ok (.iadd, 1) := by decide +kernel
theorem dL_law_2065 : decode cL_law 2065 = .ok (.iaload, 1) := by decide +kernel
theorem dL_law_2066 : decode cL_law 2066 = .ok (.invokevirtual 166, 3) := by decide +kernel
theorem dL_law_2069 : decode cL_law 2069 = .ok (.if_icmp .eq 1253, 3) := by decide +kernel
theorem dL_law_2072 : decode cL_law 2072 = .ok (.iconst 0, 1) := by decide +kernel
theorem dL_law_2073 : decode cL_law 2073 = .ok (.ireturn, 1) := by decide +kernel
theorem dL_law_2074 : decode cL_law 2074 = .ok (.aload_n 1, 1) := by decide +kernel
theorem dL_law_2075 : decode cL_law 2075 = .ok (.aload_n 0, 1) := by decide +kernel
theorem dL_law_2076 : decode cL_law 2076 = .ok (.iload 4, 2) := by decide +kernel
theorem dL_law_2078 : decode cL_law 2078 = .ok (.iconst 1, 1) := by decide +kernel
theorem dL_law_2079 : decode cL_law 2079 = .ok (.iadd, 1) := by decide +kernel
theorem dL_law_2080 : decode cL_law 2080 = .ok (.iaload, 1) := by decide +kernel
theorem dL_law_2081 : decode cL_law 2081 = .ok (.aload_n 0, 1) := by decide +kernel
theorem dL_law_2082 : decode cL_law 2082 = .ok (.iload 4, 2) := by decide +kernel
theorem dL_law_2084 : decode cL_law 2084 = .ok (.iconst 2, 1) := by decide +kernel
theorem dL_law_2085 : decode cL_law 2085 = .ok (.iadd, 1) := by decide +kernel
theorem dL_law_2086 : decode cL_law 2086 = .ok (.iaload, 1) := by decide +kernel
theorem dL_law_2087 : decode cL_law 2087 = .ok (.aload_n 0, 1) := by decide +kernel
theorem dL_law_2088 : decode cL_law 2088 = .ok (.iload 4, 2) := by decide +kernel
theorem dL_law_2090 : decode cL_law 2090 = .ok (.iconst 3, 1) := by decide +kernel
theorem dL_law_2091 : decode cL_law 2091 = .ok (.iadd, 1) := by decide +kernel
theorem dL_law_2092 : decode cL_law 2092 = .ok (.iaload, 1) := by decide +kernel
theorem dL_law_2093 : decode cL_law 2093 = .ok (.aload_n 0, 1) := by decide +kernel
theorem dL_law_2094 : decode cL_law 2094 = .ok (.iload 4, 2) := by decide +kernel
theorem dL_law_2096 : decode cL_law 2096 = .ok (.iconst 4, 1) := by decide +kernel
theorem dL_law_2097 : decode cL_law 2097 = .ok (.iadd, 1) := by decide +kernel
theorem dL_law_2098 : decode cL_law 2098 = .ok (.iaload, 1) := by decide +kernel
theorem dL_law_2099 : decode cL_law 2099 = .ok (.invokevirtual 167, 3) := by decide +kernel
theorem dL_law_2102 : decode cL_law 2102 = .ok (.aload_n 2, 1) := by decide +kernel
theorem dL_law_2103 : decode cL_law 2103 = .ok (.aload_n 0, 1) := by decide +kernel
theorem dL_law_2104 : decode cL_law 2104 = .ok (.iload 4, 2) := by decide +kernel
theorem dL_law_2106 : decode cL_law 2106 = .ok (.iconst 1, 1) := by decide +kernel
theorem dL_law_2107 : decode cL_law 2107 = .ok (.iadd, 1) := by decide +kernel
theorem dL_law_2108 : decode cL_law 2108 = .ok (.iaload, 1) := by decide +kernel
theorem dL_law_2109 : decode cL_law 2109 = .ok (.aload_n 0, 1) := by decide +kernel
theorem dL_law_2110 : decode cL_law 2110 = .ok (.iload 4, 2) := by decide +kernel
theorem dL_law_2112 : decode cL_law 2112 = .ok (.iconst 2, 1) := by decide +kernel
theorem dL_law_2113 : decode cL_law 2113 = .ok (.iadd, 1) := by decide +kernel
theorem dL_law_2114 : decode cL_law 2114 = .ok (.iaload, 1) := by decide +kernel
theorem dL_law_2115 : decode cL_law 2115 = .ok (.aload_n 0, 1) := by decide +kernel
theorem dL_law_2116 : decode cL_law 2116 = .ok (.iload 4, 2) := by decide +kernel
theorem dL_law_2118 : decode cL_law 2118 = .ok (.iconst 3, 1) := by decide +kernel
theorem dL_law_2119 : decode cL_law 2119 = .ok (.iadd, 1) := by decide +kernel
theorem dL_law_2120 : decode cL_law 2120 = .ok (.iaload, 1) := by decide +kernel
theorem dL_law_2121 : decode cL_law 2121 = .ok (.aload_n 0, 1) := by decide +kernel
theorem dL_law_2122 : decode cL_law 2122 = .ok (.iload 4, 2) := by decide +kernel
theorem dL_law_2124 : decode cL_law 2124 = .ok (.iconst 4, 1) := by decide +kernel
theorem dL_law_2125 : decode cL_law 2125 = .ok (.iadd, 1) := by decide +kernel
theorem dL_law_2126 : decode cL_law 2126 = .ok (.iaload, 1) := by decide +kernel
theorem dL_law_2127 : decode cL_law 2127 = .ok (.invokevirtual 170, 3) := by decide +kernel
theorem dL_law_2130 : decode cL_law 2130 = .ok (.if_icmp .eq 1192, 3) := by decide +kernel
theorem dL_law_2133 : decode cL_law 2133 = .ok (.iconst 0, 1) := by decide +kernel
theorem dL_law_2134 : decode cL_law 2134 = .ok (.ireturn, 1) := by decide +kernel
theorem dL_law_2135 : decode cL_law 2135 = .ok (.aload_n 1, 1) := by decide +kernel
theorem dL_law_2136 : decode cL_law 2136 = .ok (.aload_n 0, 1) := by decide +kernel
theorem dL_law_2137 : decode cL_law 2137 = .ok (.iload 4, 2) := by decide +kernel
theorem dL_law_2139 : decode cL_law 2139 = .ok (.iconst 1, 1) := by decide +kernel
theorem dL_law_2140 : decode cL_law 2140 = .ok (.iadd, 1) := by decide +kernel
theorem dL_law_2141 : decode cL_law 2141 = .ok (.iaload, 1) := by decide +kernel
theorem dL_law_2142 : decode cL_law 2142 = .ok (.invokevirtual 171, 3) := by decide +kernel
theorem dL_law_2145 : decode cL_law 2145 = .ok (.aload_n 2, 1) := by decide +kernel
theorem dL_law_2146 : decode cL_law 2146 = .ok (.aload_n 0, 1) := by decide +kernel
theorem dL_law_2147 : decode cL_law 2147 = .ok (.iload 4, 2) := by decide +kernel
theorem dL_law_2149 : decode cL_law 2149 = .ok (.iconst 1, 1) := by decide +kernel
theorem dL_law_2150 : decode cL_law 2150 = .ok (.iadd, 1) := by decide +kernel
theorem dL_law_2151 : decode cL_law 2151 = .ok (.iaload, 1) := by decide +kernel
theorem dL_law_2152 : decode cL_law 2152 = .ok (.invokevirtual 174, 3) := by decide +kernel
theorem dL_law_2155 : decode cL_law 2155 = .ok (.if_icmp .eq 1167, 3) := by decide +kernel
theorem dL_law_2158 : decode cL_law 2158 = .ok (.iconst 0, 1) := by decide +kernel
theorem dL_law_2159 : decode cL_law 2159 = .ok (.ireturn, 1) := by decide +kernel
theorem dL_law_2160 : decode cL_law 2160 = .ok (.aload_n 1, 1) := by decide +kernel
theorem dL_law_2161 : decode cL_law 2161 = .ok (.invokevirtual 175, 3) := by decide +kernel
theorem dL_law_2164 : decode cL_law 2164 = .ok (.aload_n 2, 1) := by decide +kernel
theorem dL_law_2165 : decode cL_law 2165 = .ok (.invokevirtual 179, 3) := by decide +kernel
theorem dL_law_2168 : decode cL_law 2168 = .ok (.if_icmp .eq 1154, 3) := by decide +kernel
theorem dL_law_2171 : decode cL_law 2171 = .ok (.iconst 0, 1) := by decide +kernel
theorem dL_law_2172 : decode cL_law 2172 = .ok (.ireturn, 1) := by decide +kernel
theorem dL_law_2173 : decode cL_law 2173 = .ok (.aload_n 1, 1) := by decide +kernel
theorem dL_law_2174 : decode cL_law 2174 = .ok (.aload_n 0, 1) := by decide +kernel
theorem dL_law_2175 : decode cL_law 2175 = .ok (.iload 4, 2) := by decide +kernel
theorem dL_law_2177 : decode cL_law 2177 = .ok (.iconst 1, 1) := by decide +kernel
theorem dL_law_2178 : decode cL_law 2178 = .ok (.iadd, 1) := by decide +kernel
theorem dL_law_2179 : decode cL_law 2179 = .ok (.iaload, 1) := by decide +kernel
theorem dL_law_2180 : decode cL_law 2180 = .ok (.aload_n 0, 1) := by decide +kernel
theorem dL_law_2181 : decode cL_law 2181 = .ok (.iload 4, 2) := by decide +kernel
theorem dL_law_2183 : decode cL_law 2183 = .ok (.iconst 2, 1) := by decide +kernel
theorem dL_law_2184 : decode cL_law 2184 = .ok (.iadd, 1) := by decide +kernel
theorem dL_law_2185 : decode cL_law 2185 = .ok (.iaload, 1) := by decide +kernel
theorem dL_law_2186 : decode cL_law 2186 = .ok (.aload_n 0, 1) := by decide +kernel
theorem dL_law_2187 : decode cL_law 2187 = .ok (.iload 4, 2) := by decide +kernel
theorem dL_law_2189 : decode cL_law 2189 = .ok (.iconst 3, 1) := by decide +kernel
theorem dL_law_2190 : decode cL_law 2190 = .ok (.iadd, 1) := by decide +kernel
theorem dL_law_2191 : decode cL_law 2191 = .ok (.iaload, 1) := by decide +kernel
theorem dL_law_2192 : decode cL_law 2192 = .ok (.aload_n 0, 1) := by decide +kernel
theorem dL_law_2193 : decode cL_law 2193 = .ok (.iload 4, 2) := by decide +kernel
theorem dL_law_2195 : decode cL_law 2195 = .ok (.iconst 4, 1) := by decide +kernel
theorem dL_law_2196 : decode cL_law 2196 = .ok (.iadd, 1) := by decide +kernel
theorem dL_law_2197 : decode cL_law 2197 = .ok (.iaload, 1) := by decide +kernel
theorem dL_law_2198 : decode cL_law 2198 = .ok (.aload_n 0, 1) := by decide +kernel
theorem dL_law_2199 : decode cL_law 2199 = .ok (.iload 4, 2) := by decide +kernel
theorem dL_law_2201 : decode cL_law 2201 = .ok (.iconst 5, 1) := by decide +kernel
theorem dL_law_2202 : decode cL_law 2202 = .ok (.iadd, 1) := by decide +kernel
theorem dL_law_2203 : decode cL_law 2203 = .ok (.iaload, 1) := by decide +kernel
theorem dL_law_2204 : decode cL_law 2204 = .ok (.aload_n 3, 1) := by decide +kernel
