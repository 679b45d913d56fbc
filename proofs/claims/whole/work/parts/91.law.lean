theorem wl_63 : wI 63 = 63 := by decide +kernel
abbrev xL_law : XX := (yL_law, cL_law, 4, some .boolean, 12, 464, 600000, 7302250)
theorem ck_L_law_13 : CKV xL_law 13 xX11_feed 5 := ⟨⟨tb_i 611 (by decide +kernel) (by decide +kernel), tb_i 139 (by decide +kernel) (by decide +kernel), tb_i 614 (by decide +kernel) (by decide +kernel), ⟨by decide +kernel, by decide +kernel, by decide +kernel⟩, by decide, by decide⟩, tb_i 612 (by decide +kernel) (by decide +kernel), tb_i 613 (by decide +kernel) (by decide +kernel)⟩
theorem ck_L_law_17 : CKV xL_law 17 xX12_feed 5 := ⟨⟨tb_i 1610 (by decide +kernel) (by decide +kernel), tb_i 152 (by decide +kernel) (by decide +kernel), tb_i 1613 (by decide +kernel) (by decide +kernel), ⟨by decide +kernel, by decide +kernel, by decide +kernel⟩, by decide, by decide⟩, tb_i 1611 (by decide +kernel) (by decide +kernel), tb_i 1612 (by decide +kernel) (by decide +kernel)⟩
theorem ck_L_law_18 : CKV xL_law 18 xX11_end 1 := ⟨⟨tb_i 619 (by decide +kernel) (by decide +kernel), tb_i 139 (by decide +kernel) (by decide +kernel), tb_i 622 (by decide +kernel) (by decide +kernel), ⟨by decide +kernel, by decide +kernel, by decide +kernel⟩, by decide, by decide⟩, tb_i 620 (by decide +kernel) (by decide +kernel), tb_i 621 (by decide +kernel) (by decide +kernel)⟩
theorem ck_L_law_22 : CKV xL_law 22 xX12_end 1 := ⟨⟨tb_i 1618 (by decide +kernel) (by decide +kernel), tb_i 152 (by decide +kernel) (by decide +kernel), tb_i 1621 (by decide +kernel) (by decide +kernel), ⟨by decide +kernel, by decide +kernel, by decide +kernel⟩, by decide, by decide⟩, tb_i 1619 (by decide +kernel) (by decide +kernel), tb_i 1620 (by decide +kernel) (by decide +kernel)⟩
theorem ck_L_law_23 : CKV xL_law 23 xX11_text 2 := ⟨⟨tb_i 623 (by decide +kernel) (by decide +kernel), tb_i 139 (by decide +kernel) (by decide +kernel), tb_i 626 (by decide +kernel) (by decide +kernel), ⟨by decide +kernel, by decide +kernel, by decide +kernel⟩, by decide, by decide⟩, tb_i 624 (by decide +kernel) (by decide +kernel), tb_i 625 (by decide +kernel) (by decide +kernel)⟩
theorem ck_L_law_27 : CKV xL_law 27 xX12_text 2 := ⟨⟨tb_i 1625 (by decide +kernel) (by decide +kernel), tb_i 152 (by decide +kernel) (by decide +kernel), tb_i 1628 (by decide +kernel) (by decide +kernel), ⟨by decide +kernel, by decide +kernel, by decide +kernel⟩, by decide, by decide⟩, tb_i 1626 (by decide +kernel) (by decide +kernel), tb_i 1627 (by decide +kernel) (by decide +kernel)⟩
theorem ck_L_law_28 : CKV xL_law 28 xX11_fault 1 := ⟨⟨tb_i 858 (by decide +kernel) (by decide +kernel), tb_i 139 (by decide +kernel) (by decide +kernel), tb_i 861 (by decide +kernel) (by decide +kernel), ⟨by decide +kernel, by decide +kernel, by decide +kernel⟩, by decide, by decide⟩, tb_i 859 (by decide +kernel) (by decide +kernel), tb_i 860 (by decide +kernel) (by decide +kernel)⟩
theorem ck_L_law_31 : CKV xL_law 31 xX12_fault 1 := ⟨⟨tb_i 1772 (by decide +kernel) (by decide +kernel), tb_i 152 (by decide +kernel) (by decide +kernel), tb_i 1775 (by decide +kernel) (by decide +kernel), ⟨by decide +kernel, by decide +kernel, by decide +kernel⟩, by decide, by decide⟩, tb_i 1773 (by decide +kernel) (by decide +kernel), tb_i 1774 (by decide +kernel) (by decide +kernel)⟩
theorem ck_L_law_32 : CKV xL_law 32 xX11_party 2 := ⟨⟨tb_i 862 (by decide +kernel) (by decide +kernel), tb_i 139 (by decide +kernel) (by decide +kernel), tb_i 865 (by decide +kernel) (by decide +kernel), ⟨by decide +kernel, by decide +kernel, by decide +kernel⟩, by decide, by decide⟩, tb_i 863 (by decide +kernel) (by decide +kernel), tb_i 864 (by decide +kernel) (by decide +kernel)⟩
theorem ck_L_law_35 : CKV xL_law 35 xX12_party 2 := ⟨⟨tb_i 1776 (by decide +kernel) (by decide +kernel), tb_i 152 (by decide +kernel) (by decide +kernel), tb_i 1779 (by decide +kernel) (by decide +kernel), ⟨by decide +kernel, by decide +kernel, by decide +kernel⟩, by decide, by decide⟩, tb_i 1777 (by decide +kernel) (by decide +kernel), tb_i 1778 (by decide +kernel) (by decide +kernel)⟩
theorem ck_L_law_36 : CKV xL_law 36 xX11_child 3 := ⟨⟨tb_i 874 (by decide +kernel) (by decide +kernel), tb_i 139 (by decide +kernel) (by decide +kernel), tb_i 877 (by decide +kernel) (by decide +kernel), ⟨by decide +kernel, by decide +kernel, by decide +kernel⟩, by decide, by decide⟩, tb_i 875 (by decide +kernel) (by decide +kernel), tb_i 876 (by decide +kernel) (by decide +kernel)⟩
theorem ck_L_law_40 : CKV xL_law 40 xX12_child 3 := ⟨⟨tb_i 1788 (by decide +kernel) (by decide +kernel), tb_i 152 (by decide +kernel) (by decide +kernel), tb_i 1791 (by decide +kernel) (by decide +kernel), ⟨by decide +kernel, by decide +kernel, by decide +kernel⟩, by decide, by decide⟩, tb_i 1789 (by decide +kernel) (by decide +kernel), tb_i 1790 (by decide +kernel) (by decide +kernel)⟩
theorem ck_L_law_41 : CKV xL_law 41 xX11_deed 3 := ⟨⟨tb_i 891 (by decide +kernel) (by decide +kernel), tb_i 139 (by decide +kernel) (by decide +kernel), tb_i 894 (by decide +kernel) (by decide +kernel), ⟨by decide +kernel, by decide +kernel, by decide +kernel⟩, by decide, by decide⟩, tb_i 892 (by decide +kernel) (by decide +kernel), tb_i 893 (by decide +kernel) (by decide +kernel)⟩
theorem ck_L_law_44 : CKV xL_law 44 xX12_deed 3 := ⟨⟨tb_i 1800 (by decide +kernel) (by decide +kernel), tb_i 152 (by decide +kernel) (by decide +kernel), tb_i 1803 (by decide +kernel) (by decide +kernel), ⟨by decide +kernel, by decide +kernel, by decide +kernel⟩, by decide, by decide⟩, tb_i 1801 (by decide +kernel) (by decide +kernel), tb_i 1802 (by decide +kernel) (by decide +kernel)⟩
theorem ck_L_law_45 : CKV xL_law 45 xX11_stop 2 := ⟨⟨tb_i 903 (by decide +kernel) (by decide +kernel), tb_i 139 (by decide +kernel) (by decide +kernel), tb_i 906 (by decide +kernel) (by decide +kernel), ⟨by decide +kernel, by decide +kernel, by decide +kernel⟩, by decide, by decide⟩, tb_i 904 (by decide +kernel) (by decide +kernel), tb_i 905 (by decide +kernel) (by decide +kernel)⟩
theorem ck_L_law_48 : CKV xL_law 48 xX12_stop 2 := ⟨⟨tb_i 1816 (by decide +kernel) (by decide +kernel), tb_i 152 (by decide +kernel) (by decide +kernel), tb_i 1819 (by decide +kernel) (by decide +kernel), ⟨by decide +kernel, by decide +kernel, by decide +kernel⟩, by decide, by decide⟩, tb_i 1817 (by decide +kernel) (by decide +kernel), tb_i 1818 (by decide +kernel) (by decide +kernel)⟩
theorem ck_L_law_49 : CKV xL_law 49 xX11_state 4 := ⟨⟨tb_i 957 (by decide +kernel) (by decide +kernel), tb_i 139 (by decide +kernel) (by decide +kernel), tb_i 960 (by decide +kernel) (by decide +kernel), ⟨by decide +kernel, by decide +kernel, by decide +kernel⟩, by decide, by decide⟩, tb_i 958 (by decide +kernel) (by decide +kernel), tb_i 959 (by decide +kernel) (by decide +kernel)⟩
theorem ck_L_law_53 : CKV xL_law 53 xX12_state 4 := ⟨⟨tb_i 1864 (by decide +kernel) (by decide +kernel), tb_i 152 (by decide +kernel) (by decide +kernel), tb_i 1867 (by decide +kernel) (by decide +kernel), ⟨by decide +kernel, by decide +kernel, by decide +kernel⟩, by decide, by decide⟩, tb_i 1865 (by decide +kernel) (by decide +kernel), tb_i 1866 (by decide +kernel) (by decide +kernel)⟩
theorem ck_L_law_54 : CKV xL_law 54 xX11_did 5 := ⟨⟨tb_i 965 (by decide +kernel) (by decide +kernel), tb_i 139 (by decide +kernel) (by decide +kernel), tb_i 968 (by decide +kernel) (by decide +kernel), ⟨by decide +kernel, by decide +kernel, by decide +kernel⟩, by decide, by decide⟩, tb_i 966 (by decide +kernel) (by decide +kernel), tb_i 967 (by decide +kernel) (by decide +kernel)⟩
theorem ck_L_law_57 : CKV xL_law 57 xX12_did 5 := ⟨⟨tb_i 1872 (by decide +kernel) (by decide +kernel), tb_i 152 (by decide +kernel) (by decide +kernel), tb_i 1875 (by decide +kernel) (by decide +kernel), ⟨by decide +kernel, by decide +kernel, by decide +kernel⟩, by decide, by decide⟩, tb_i 1873 (by decide +kernel) (by decide +kernel), tb_i 1874 (by decide +kernel) (by decide +kernel)⟩
theorem ck_L_law_58 : CKV xL_law 58 xX11_span 3 := ⟨⟨tb_i 973 (by decide +kernel) (by decide +kernel), tb_i 139 (by decide +kernel) (by decide +kernel), tb_i 976 (by decide +kernel) (by decide +kernel), ⟨by decide +kernel, by decide +kernel, by decide +kernel⟩, by decide, by decide⟩, tb_i 974 (by decide +kernel) (by decide +kernel), tb_i 975 (by decide +kernel) (by decide +kernel)⟩
theorem ck_L_law_62 : CKV xL_law 62 xX12_span 3 := ⟨⟨tb_i 1876 (by decide +kernel) (by decide +kernel), tb_i 152 (by decide +kernel) (by decide +kernel), tb_i 1879 (by decide +kernel) (by decide +kernel), ⟨by decide +kernel, by decide +kernel, by decide +kernel⟩, by decide, by decide⟩, tb_i 1877 (by decide +kernel) (by decide +kernel), tb_i 1878 (by decide +kernel) (by decide +kernel)⟩
theorem ck_L_law_63 : CKV xL_law 63 xX11_clue 3 := ⟨⟨tb_i 985 (by decide +kernel) (by decide +kernel), tb_i 139 (by decide +kernel) (by decide +kernel), tb_i 988 (by decide +kernel) (by decide +kernel), ⟨by decide +kernel, by decide +kernel, by decide +kernel⟩, by decide, by decide⟩, tb_i 986 (by decide +kernel) (by decide +kernel), tb_i 987 (by decide +kernel) (by decide +kernel)⟩
theorem ck_L_law_66 : CKV xL_law 66 xX12_clue 3 := ⟨⟨tb_i 1884 (by decide +kernel) (by decide +kernel), tb_i 152 (by decide +kernel) (by decide +kernel), tb_i 1887 (by decide +kernel) (by decide +kernel), ⟨by decide +kernel, by decide +kernel, by decide +kernel⟩, by decide, by decide⟩, tb_i 1885 (by decide +kernel) (by decide +kernel), tb_i 1886 (by decide +kernel) (by decide +kernel)⟩
theorem ck_L_law_67 : CKV xL_law 67 xX11_hangs 4 := ⟨⟨tb_i 993 (by decide +kernel) (by decide +kernel), tb_i 139 (by decide +kernel) (by decide +kernel), tb_i 996 (by decide +kernel) (by decide +kernel), ⟨by decide +kernel, by decide +kernel, by decide +kernel⟩, by decide, by decide⟩, tb_i 994 (by decide +kernel) (by decide +kernel), tb_i 995 (by decide +kernel) (by decide +kernel)⟩
theorem ck_L_law_71 : CKV xL_law 71 xX12_hangs 4 := ⟨⟨tb_i 1900 (by decide +kernel) (by decide +kernel), tb_i 152 (by decide +kernel) (by decide +kernel), tb_i 1903 (by decide +kernel) (by decide +kernel), ⟨by decide +kernel, by decide +kernel, by decide +kernel⟩, by decide, by decide⟩, tb_i 1901 (by decide +kernel) (by decide +kernel), tb_i 1902 (by decide +kernel) (by decide +kernel)⟩
theorem ck_L_law_72 : CKV xL_law 72 xX11_aim 3 := ⟨⟨tb_i 1015 (by decide +kernel) (by decide +kernel), tb_i 139 (by decide +kernel) (by decide +kernel), tb_i 1018 (by decide +kernel) (by decide +kernel), ⟨by decide +kernel, by decide +kernel, by decide +kernel⟩, by decide, by decide⟩, tb_i 1016 (by decide +kernel) (by decide +kernel), tb_i 1017 (by decide +kernel) (by decide +kernel)⟩
theorem ck_L_law_75 : CKV xL_law 75 xX12_aim 3 := ⟨⟨tb_i 1923 (by decide +kernel) (by decide +kernel), tb_i 152 (by decide +kernel) (by decide +kernel), tb_i 1926 (by decide +kernel) (by decide +kernel), ⟨by decide +kernel, by decide +kernel, by decide +kernel⟩, by decide, by decide⟩, tb_i 1924 (by decide +kernel) (by decide +kernel), tb_i 1925 (by decide +kernel) (by decide +kernel)⟩
theorem ck_L_law_76 : CKV xL_law 76 xX11_luck 4 := ⟨⟨tb_i 1038 (by decide +kernel) (by decide +kernel), tb_i 139 (by decide +kernel) (by decide +kernel), tb_i 1041 (by decide +kernel) (by decide +kernel), ⟨by decide +kernel, by decide +kernel, by decide +kernel⟩, by decide, by decide⟩, tb_i 1039 (by decide +kernel) (by decide +kernel), tb_i 1040 (by decide +kernel) (by decide +kernel)⟩
theorem ck_L_law_79 : CKV xL_law 79 xX12_luck 4 := ⟨⟨tb_i 1936 (by decide +kernel) (by decide +kernel), tb_i 152 (by decide +kernel) (by decide +kernel), tb_i 1939 (by decide +kernel) (by decide +kernel), ⟨by decide +kernel, by decide +kernel, by decide +kernel⟩, by decide, by decide⟩, tb_i 1937 (by decide +kernel) (by decide +kernel), tb_i 1938 (by decide +kernel) (by decide +kernel)⟩
theorem ck_L_law_80 : CKV xL_law 80 xX11_chance 5 := ⟨⟨tb_i 1043 (by decide +kernel) (by decide +kernel), tb_i 139 (by decide +kernel) (by decide +kernel), tb_i 1046 (by decide +kernel) (by decide +kernel), ⟨by decide +kernel, by decide +kernel, by decide +kernel⟩, by decide, by decide⟩, tb_i 1044 (by decide +kernel) (by decide +kernel), tb_i 1045 (by decide +kernel) (by decide +kernel)⟩
theorem ck_L_law_84 : CKV xL_law 84 xX12_chance 5 := ⟨⟨tb_i 1940 (by decide +kernel) (by decide +kernel), tb_i 152 (by decide +kernel) (by decide +kernel), tb_i 1943 (by decide +kernel) (by decide +kernel), ⟨by decide +kernel, by decide +kernel, by decide +kernel⟩, by decide, by decide⟩, tb_i 1941 (by decide +kernel) (by decide +kernel), tb_i 1942 (by decide +kernel) (by decide +kernel)⟩
theorem ck_L_law_85 : CKV xL_law 85 xX11_uncle 2 := ⟨⟨tb_i 1090 (by decide +kernel) (by decide +kernel), tb_i 139 (by decide +kernel) (by decide +kernel), tb_i 1093 (by decide +kernel) (by decide +kernel), ⟨by decide +kernel, by decide +kernel, by decide +kernel⟩, by decide, by decide⟩, tb_i 1091 (by decide +kernel) (by decide +kernel), tb_i 1092 (by decide +kernel) (by decide +kernel)⟩
theorem ck_L_law_89 : CKV xL_law 89 xX12_uncle 2 := ⟨⟨tb_i 1973 (by decide +kernel) (by decide +kernel), tb_i 152 (by decide +kernel) (by decide +kernel), tb_i 1976 (by decide +kernel) (by decide +kernel), ⟨by decide +kernel, by decide +kernel, by decide +kernel⟩, by decide, by decide⟩, tb_i 1974 (by decide +kernel) (by decide +kernel), tb_i 1975 (by decide +kernel) (by decide +kernel)⟩
theorem ck_L_law_90 : CKV xL_law 90 xX11_lifts 4 := ⟨⟨tb_i 1121 (by decide +kernel) (by decide +kernel), tb_i 139 (by decide +kernel) (by decide +kernel), tb_i 1124 (by decide +kernel) (by decide +kernel), ⟨by decide +kernel, by decide +kernel, by decide +kernel⟩, by decide, by decide⟩, tb_i 1122 (by decide +kernel) (by decide +kernel), tb_i 1123 (by decide +kernel) (by decide +kernel)⟩
theorem ck_L_law_93 : CKV xL_law 93 xX12_lifts 4 := ⟨⟨tb_i 1988 (by decide +kernel) (by decide +kernel), tb_i 152 (by decide +kernel) (by decide +kernel), tb_i 1991 (by decide +kernel) (by decide +kernel), ⟨by decide +kernel, by decide +kernel, by decide +kernel⟩, by decide, by decide⟩, tb_i 1989 (by decide +kernel) (by decide +kernel), tb_i 1990 (by decide +kernel) (by decide +kernel)⟩
theorem ck_L_law_94 : CKV xL_law 94 xX11_fair 1 := ⟨⟨tb_i 1130 (by decide +kernel) (by decide +kernel), tb_i 139 (by decide +kernel) (by decide +kernel), tb_i 1133 (by decide +kernel) (by decide +kernel), ⟨by decide +kernel, by decide +kernel, by decide +kernel⟩, by decide, by decide⟩, tb_i 1131 (by decide +kernel) (by decide +kernel), tb_i 1132 (by decide +kernel) (by decide +kernel)⟩
theorem ck_L_law_97 : CKV xL_law 97 xX12_fair 1 := ⟨⟨tb_i 1992 (by decide +kernel) (by decide +kernel), tb_i 152 (by decide +kernel) (by decide +kernel), tb_i 1995 (by decide +kernel) (by decide +kernel), ⟨by decide +kernel, by decide +kernel, by decide +kernel⟩, by decide, by decide⟩, tb_i 1993 (by decide +kernel) (by decide +kernel), tb_i 1994 (by decide +kernel) (by decide +kernel)⟩
theorem ck_L_law_98 : CKV xL_law 98 xX11_thick 1 := ⟨⟨tb_i 1159 (by decide +kernel) (by decide +kernel), tb_i 139 (by decide +kernel) (by decide +kernel), tb_i 1162 (by decide +kernel) (by decide +kernel), ⟨by decide +kernel, by decide +kernel, by decide +kernel⟩, by decide, by decide⟩, tb_i 1160 (by decide +kernel) (by decide +kernel), tb_i 1161 (by decide +kernel) (by decide +kernel)⟩
theorem ck_L_law_101 : CKV xL_law 101 xX12_thick 1 := ⟨⟨tb_i 2012 (by decide +kernel) (by decide +kernel), tb_i 152 (by decide +kernel) (by decide +kernel), tb_i 2015 (by decide +kernel) (by decide +kernel), ⟨by decide +kernel, by decide +kernel, by decide +kernel⟩, by decide, by decide⟩, tb_i 2013 (by decide +kernel) (by decide +kernel), tb_i 2014 (by decide +kernel) (by decide +kernel)⟩
theorem ck_L_law_102 : CKV xL_law 102 xX11_cell 4 := ⟨⟨tb_i 1167 (by decide +kernel) (by decide +kernel), tb_i 139 (by decide +kernel) (by decide +kernel), tb_i 1170 (by decide +kernel) (by decide +kernel), ⟨by decide +kernel, by decide +kernel, by decide +kernel⟩, by decide, by decide⟩, tb_i 1168 (by decide +kernel) (by decide +kernel), tb_i 1169 (by decide +kernel) (by decide +kernel)⟩
theorem ck_L_law_105 : CKV xL_law 105 xX12_cell 4 := ⟨⟨tb_i 2016 (by decide +kernel) (by decide +kernel), tb_i 152 (by decide +kernel) (by decide +kernel), tb_i 2019 (by decide +kernel) (by decide +kernel), ⟨by decide +kernel, by decide +kernel, by decide +kernel⟩, by decide, by decide⟩, tb_i 2017 (by decide +kernel) (by decide +kernel), tb_i 2018 (by decide +kernel) (by decide +kernel)⟩
theorem ck_L_law_106 : CKV xL_law 106 xX11_share 4 := ⟨⟨tb_i 1195 (by decide +kernel) (by decide +kernel), tb_i 139 (by decide +kernel) (by decide +kernel), tb_i 1198 (by decide +kernel) (by decide +kernel), ⟨by decide +kernel, by decide +kernel, by decide +kernel⟩, by decide, by decide⟩, tb_i 1196 (by decide +kernel) (by decide +kernel), tb_i 1197 (by decide +kernel) (by decide +kernel)⟩
theorem ck_L_law_110 : CKV xL_law 110 xX12_share 4 := ⟨⟨tb_i 2041 (by decide +kernel) (by decide +kernel), tb_i 152 (by decide +kernel) (by decide +kernel), tb_i 2044 (by decide +kernel) (by decide +kernel), ⟨by decide +kernel, by decide +kernel, by decide +kernel⟩, by decide, by decide⟩, tb_i 2042 (by decide +kernel) (by decide +kernel), tb_i 2043 (by decide +kernel) (by decide +kernel)⟩
theorem ck_L_law_111 : CKV xL_law 111 xX11_stand 3 := ⟨⟨tb_i 1216 (by decide +kernel) (by decide +kernel), tb_i 139 (by decide +kernel) (by decide +kernel), tb_i 1219 (by decide +kernel) (by decide +kernel), ⟨by decide +kernel, by decide +kernel, by decide +kernel⟩, by decide, by decide⟩, tb_i 1217 (by decide +kernel) (by decide +kernel), tb_i 1218 (by decide +kernel) (by decide +kernel)⟩
theorem ck_L_law_114 : CKV xL_law 114 xX12_stand 3 := ⟨⟨tb_i 2057 (by decide +kernel) (by decide +kernel), tb_i 152 (by decide +kernel) (by decide +kernel), tb_i 2060 (by decide +kernel) (by decide +kernel), ⟨by decide +kernel, by decide +kernel, by decide +kernel⟩, by decide, by decide⟩, tb_i 2058 (by decide +kernel) (by decide +kernel), tb_i 2059 (by decide +kernel) (by decide +kernel)⟩
theorem ck_L_law_115 : CKV xL_law 115 xX11_danger 3 := ⟨⟨tb_i 1225 (by decide +kernel) (by decide +kernel), tb_i 139 (by decide +kernel) (by decide +kernel), tb_i 1228 (by decide +kernel) (by decide +kernel), ⟨by decide +kernel, by decide +kernel, by decide +kernel⟩, by decide, by decide⟩, tb_i 1226 (by decide +kernel) (by decide +kernel), tb_i 1227 (by decide +kernel) (by decide +kernel)⟩
theorem ck_L_law_118 : CKV xL_law 118 xX12_danger 3 := ⟨⟨tb_i 2061 (by decide +kernel) (by decide +kernel), tb_i 152 (by decide +kernel) (by decide +kernel), tb_i 2064 (by decide +kernel) (by decide +kernel), ⟨by decide +kernel, by decide +kernel, by decide +kernel⟩, by decide, by decide⟩, tb_i 2062 (by decide +kernel) (by decide +kernel), tb_i 2063 (by decide +kernel) (by decide +kernel)⟩
theorem ck_L_law_119 : CKV xL_law 119 xX11_safe 2 := ⟨⟨tb_i 1235 (by decide +kernel) (by decide +kernel), tb_i 139 (by decide +kernel) (by decide +kernel), tb_i 1238 (by decide +kernel) (by decide +kernel), ⟨by decide +kernel, by decide +kernel, by decide +kernel⟩, by decide, by decide⟩, tb_i 1236 (by decide +kernel) (by decide +kernel), tb_i 1237 (by decide +kernel) (by decide +kernel)⟩
theorem ck_L_law_122 : CKV xL_law 122 xX12_safe 2 := ⟨⟨tb_i 2073 (by decide +kernel) (by decide +kernel), tb_i 152 (by decide +kernel) (by decide +kernel), tb_i 2076 (by decide +kernel) (by decide +kernel), ⟨by decide +kernel, by decide +kernel, by decide +kernel⟩, by decide, by decide⟩, tb_i 2074 (by decide +kernel) (by decide +kernel), tb_i 2075 (by decide +kernel) (by decide +kernel)⟩
theorem ck_L_law_123 : CKV xL_law 123 xX11_fell 3 := ⟨⟨tb_i 1244 (by decide +kernel) (by decide +kernel), tb_i 139 (by decide +kernel) (by decide +kernel), tb_i 1247 (by decide +kernel) (by decide +kernel), ⟨by decide +kernel, by decide +kernel, by decide +kernel⟩, by decide, by decide⟩, tb_i 1245 (by decide +kernel) (by decide +kernel), tb_i 1246 (by decide +kernel) (by decide +kernel)⟩
theorem ck_L_law_126 : CKV xL_law 126 xX12_fell 3 := ⟨⟨tb_i 2081 (by decide +kernel) (by decide +kernel), tb_i 152 (by decide +kernel) (by decide +kernel), tb_i 2084 (by decide +kernel) (by decide +kernel), ⟨by decide +kernel, by decide +kernel, by decide +kernel⟩, by decide, by decide⟩, tb_i 2082 (by decide +kernel) (by decide +kernel), tb_i 2083 (by decide +kernel) (by decide +kernel)⟩
theorem ck_L_law_127 : CKV xL_law 127 xX11_bag 5 := ⟨⟨tb_i 1256 (by decide +kernel) (by decide +kernel), tb_i 139 (by decide +kernel) (by decide +kernel), tb_i 1259 (by decide +kernel) (by decide +kernel), ⟨by decide +kernel, by decide +kernel, by decide +kernel⟩, by decide, by decide⟩, tb_i 1257 (by decide +kernel) (by decide +kernel), tb_i 1258 (by decide +kernel) (by decide +kernel)⟩
theorem ck_L_law_130 : CKV xL_law 130 xX12_bag 5 := ⟨⟨tb_i 2101 (by decide +kernel) (by decide +kernel), tb_i 152 (by decide +kernel) (by decide +kernel), tb_i 2104 (by decide +kernel) (by decide +kernel), ⟨by decide +kernel, by decide +kernel, by decide +kernel⟩, by decide, by decide⟩, tb_i 2102 (by decide +kernel) (by decide +kernel), tb_i 2103 (by decide +kernel) (by decide +kernel)⟩
theorem ck_L_law_131 : CKV xL_law 131 xX11_record 2 := ⟨⟨tb_i 1300 (by decide +kernel) (by decide +kernel), tb_i 139 (by decide +kernel) (by decide +kernel), tb_i 1303 (by decide +kernel) (by decide +kernel), ⟨by decide +kernel, by decide +kernel, by decide +kernel⟩, by decide, by decide⟩, tb_i 1301 (by decide +kernel) (by decide +kernel), tb_i 1302 (by decide +kernel) (by decide +kernel)⟩
theorem ck_L_law_134 : CKV xL_law 134 xX12_record 2 := ⟨⟨tb_i 2129 (by decide +kernel) (by decide +kernel), tb_i 152 (by decide +kernel) (by decide +kernel), tb_i 2132 (by decide +kernel) (by decide +kernel), ⟨by decide +kernel, by decide +kernel, by decide +kernel⟩, by decide, by decide⟩, tb_i 2130 (by decide +kernel) (by decide +kernel), tb_i 2131 (by decide +kernel) (by decide +kernel)⟩
theorem ck_L_law_135 : CKV xL_law 135 xX11_trust 3 := ⟨⟨tb_i 1329 (by decide +kernel) (by decide +kernel), tb_i 139 (by decide +kernel) (by decide +kernel), tb_i 1332 (by decide +kernel) (by decide +kernel), ⟨by decide +kernel, by decide +kernel, by decide +kernel⟩, by decide, by decide⟩, tb_i 1330 (by decide +kernel) (by decide +kernel), tb_i 1331 (by decide +kernel) (by decide +kernel)⟩
theorem ck_L_law_138 : CKV xL_law 138 xX12_trust 3 := ⟨⟨tb_i 2153 (by decide +kernel) (by decide +kernel), tb_i 152 (by decide +kernel) (by decide +kernel), tb_i 2156 (by decide +kernel) (by decide +kernel), ⟨by decide +kernel, by decide +kernel, by decide +kernel⟩, by decide, by decide⟩, tb_i 2154 (by decide +kernel) (by decide +kernel), tb_i 2155 (by decide +kernel) (by decide +kernel)⟩
theorem ck_L_law_139 : CKV xL_law 139 xX11_peeped 4 := ⟨⟨tb_i 1335 (by decide +kernel) (by decide +kernel), tb_i 139 (by decide +kernel) (by decide +kernel), tb_i 1338 (by decide +kernel) (by decide +kernel), ⟨by decide +kernel, by decide +kernel, by decide +kernel⟩, by decide, by decide⟩, tb_i 1336 (by decide +kernel) (by decide +kernel), tb_i 1337 (by decide +kernel) (by decide +kernel)⟩
theorem ck_L_law_142 : CKV xL_law 142 xX12_peeped 4 := ⟨⟨tb_i 2157 (by decide +kernel) (by decide +kernel), tb_i 152 (by decide +kernel) (by decide +kernel), tb_i 2160 (by decide +kernel) (by decide +kernel), ⟨by decide +kernel, by decide +kernel, by decide +kernel⟩, by decide, by decide⟩, tb_i 2158 (by decide +kernel) (by decide +kernel), tb_i 2159 (by decide +kernel) (by decide +kernel)⟩
theorem ck_L_law_143 : CKV xL_law 143 xX11_many 3 := ⟨⟨tb_i 1343 (by decide +kernel) (by decide +kernel), tb_i 139 (by decide +kernel) (by decide +kernel), tb_i 1346 (by decide +kernel) (by decide +kernel), ⟨by decide +kernel, by decide +kernel, by decide +kernel⟩, by decide, by decide⟩, tb_i 1344 (by decide +kernel) (by decide +kernel), tb_i 1345 (by decide +kernel) (by decide +kernel)⟩
theorem ck_L_law_146 : CKV xL_law 146 xX12_many 3 := ⟨⟨tb_i 2164 (by decide +kernel) (by decide +kernel), tb_i 152 (by decide +kernel) (by decide +kernel), tb_i 2167 (by decide +kernel) (by decide +kernel), ⟨by decide +kernel, by decide +kernel, by decide +kernel⟩, by decide, by decide⟩, tb_i 2165 (by decide +kernel) (by decide +kernel), tb_i 2166 (by decide +kernel) (by decide +kernel)⟩
theorem ck_L_law_147 : CKV xL_law 147 xX11_drawn 3 := ⟨⟨tb_i 1348 (by decide +kernel) (by decide +kernel), tb_i 139 (by decide +kernel) (by decide +kernel), tb_i 1351 (by decide +kernel) (by decide +kernel), ⟨by decide +kernel, by decide +kernel, by decide +kernel⟩, by decide, by decide⟩, tb_i 1349 (by decide +kernel) (by decide +kernel), tb_i 1350 (by decide +kernel) (by decide +kernel)⟩
theorem ck_L_law_150 : CKV xL_law 150 xX12_drawn 3 := ⟨⟨tb_i 2169 (by decide +kernel) (by decide +kernel), tb_i 152 (by decide +kernel) (by decide +kernel), tb_i 2172 (by decide +kernel) (by decide +kernel), ⟨by decide +kernel, by decide +kernel, by decide +kernel⟩, by decide, by decide⟩, tb_i 2170 (by decide +kernel) (by decide +kernel), tb_i 2171 (by decide +kernel) (by decide +kernel)⟩
theorem ck_L_law_151 : CKV xL_law 151 xX11_count 1 := ⟨⟨tb_i 1378 (by decide +kernel) (by decide +kernel), tb_i 139 (by decide +kernel) (by decide +kernel), tb_i 1381 (by decide +kernel) (by decide +kernel), ⟨by decide +kernel, by decide +kernel, by decide +kernel⟩, by decide, by decide⟩, tb_i 1379 (by decide +kernel) (by decide +kernel), tb_i 1380 (by decide +kernel) (by decide +kernel)⟩
theorem ck_L_law_154 : CKV xL_law 154 xX12_count 1 := ⟨⟨tb_i 2186 (by decide +kernel) (by decide +kernel), tb_i 152 (by decide +kernel) (by decide +kernel), tb_i 2189 (by decide +kernel) (by decide +kernel), ⟨by decide +kernel, by decide +kernel, by decide +kernel⟩, by decide, by decide⟩, tb_i 2187 (by decide +kernel) (by decide +kernel), tb_i 2188 (by decide +kernel) (by decide +kernel)⟩
theorem ck_L_law_155 : CKV xL_law 155 xX11_image 1 := ⟨⟨tb_i 1382 (by decide +kernel) (by decide +kernel), tb_i 139 (by decide +kernel) (by decide +kernel), tb_i 1385 (by decide +kernel) (by decide +kernel), ⟨by decide +kernel, by decide +kernel, by decide +kernel⟩, by decide, by decide⟩, tb_i 1383 (by decide +kernel) (by decide +kernel), tb_i 1384 (by decide +kernel) (by decide +kernel)⟩
theorem ck_L_law_159 : CKV xL_law 159 xX12_image 1 := ⟨⟨tb_i 2190 (by decide +kernel) (by decide +kernel), tb_i 152 (by decide +kernel) (by decide +kernel), tb_i 2193 (by decide +kernel) (by decide +kernel), ⟨by decide +kernel, by decide +kernel, by decide +kernel⟩, by decide, by decide⟩, tb_i 2191 (by decide +kernel) (by decide +kernel), tb_i 2192 (by decide +kernel) (by decide +kernel)⟩
theorem ck_L_law_160 : CKV xL_law 160 xX11_again 1 := ⟨⟨tb_i 1395 (by decide +kernel) (by decide +kernel), tb_i 139 (by decide +kernel) (by decide +kernel), tb_i 1398 (by decide +kernel) (by decide +kernel), ⟨by decide +kernel, by decide +kernel, by decide +kernel⟩, by decide, by decide⟩, tb_i 1396 (by decide +kernel) (by decide +kernel), tb_i 1397 (by decide +kernel) (by decide +kernel)⟩
theorem ck_L_law_163 : CKV xL_law 163 xX12_again 1 := ⟨⟨tb_i 2201 (by decide +kernel) (by decide +kernel), tb_i 152 (by decide +kernel) (by decide +kernel), tb_i 2204 (by decide +kernel) (by decide +kernel), ⟨by decide +kernel, by decide +kernel, by decide +kernel⟩, by decide, by decide⟩, tb_i 2202 (by decide +kernel) (by decide +kernel), tb_i 2203 (by decide +kernel) (by decide +kernel)⟩
def sL_law_b1792 (xs : Nat → Int) (lx : Nat) (a1 : Nat) (a2 : Nat) (K18 : Int → MM → Option Int) (x3 : Int) (M : MM) : Option Int := ((some (x3 + 6)).bind fun v_1 => (K18 v_1 M))
def sL_law_b1628 (xs : Nat → Int) (lx : Nat) (a1 : Nat) (a2 : Nat) (K18 : Int → MM → Option Int) (x3 : Int) (y90 : Int) (a91 : Nat) (x92 : Int) (x93 : Int) (x94 : Int) (x95 : Int) (M : MM) : Option Int := ((sX12_peeped a91 x92 x93 x94 x95 M).bind fun q_1 => (if wJ y90 = wJ (q_1.1) then (sL_law_b1792 xs lx a1 a2 K18 x3 q_1.2) else (some (0))))
def sL_law_b1596 (xs : Nat → Int) (lx : Nat) (a1 : Nat) (a2 : Nat) (K18 : Int → MM → Option Int) (x3 : Int) (a90 : Nat) (x91 : Int) (x92 : Int) (x93 : Int) (x94 : Int) (M : MM) : Option Int := ((sX11_peeped a90 x91 x92 x93 x94 M).bind fun q_1 => (if 0 ≤ wI (x3 + 1) ∧ wI (x3 + 1) < (lx : Int) then (if 0 ≤ wI (x3 + 2) ∧ wI (x3 + 2) < (lx : Int) then (if 0 ≤ wI (x3 + 3) ∧ wI (x3 + 3) < (lx : Int) then (if 0 ≤ wI (x3 + 4) ∧ wI (x3 + 4) < (lx : Int) then (if wI (xs (wI (x3 + 4)).toNat) = 0 then (sL_law_b1628 xs lx a1 a2 K18 x3 q_1 a2 (xs (wI (x3 + 1)).toNat) (xs (wI (x3 + 2)).toNat) (xs (wI (x3 + 3)).toNat) 0 M) else (sL_law_b1628 xs lx a1 a2 K18 x3 q_1 a2 (xs (wI (x3 + 1)).toNat) (xs (wI (x3 + 2)).toNat) (xs (wI (x3 + 3)).toNat) 1 M)) else none) else none) else none) else none))
def sL_law_b1559 (xs : Nat → Int) (lx : Nat) (a1 : Nat) (a2 : Nat) (K18 : Int → MM → Option Int) (x3 : Int) (x90 : Int) (a91 : Nat) (x92 : Int) (x93 : Int) (x94 : Int) (M : MM) : Option Int := ((sX12_trust a91 x92 x93 x94 M).bind fun q_1 => (if wI x90 = wI (q_1.1) then (sL_law_b1792 xs lx a1 a2 K18 x3 q_1.2) else (some (0))))
def sL_law_b1532 (xs : Nat → Int) (lx : Nat) (a1 : Nat) (a2 : Nat) (K18 : Int → MM → Option Int) (x3 : Int) (a90 : Nat) (x91 : Int) (x92 : Int) (x93 : Int) (M : MM) : Option Int := ((sX11_trust a90 x91 x92 x93 M).bind fun q_1 => (if 0 ≤ wI (x3 + 1) ∧ wI (x3 + 1) < (lx : Int) then (if 0 ≤ wI (x3 + 2) ∧ wI (x3 + 2) < (lx : Int) then (if 0 ≤ wI (x3 + 3) ∧ wI (x3 + 3) < (lx : Int) then (if wI (xs (wI (x3 + 3)).toNat) = 0 then (sL_law_b1559 xs lx a1 a2 K18 x3 q_1 a2 (xs (wI (x3 + 1)).toNat) (xs (wI (x3 + 2)).toNat) 0 M) else (sL_law_b1559 xs lx a1 a2 K18 x3 q_1 a2 (xs (wI (x3 + 1)).toNat) (xs (wI (x3 + 2)).toNat) 1 M)) else none) else none) else none))
def sL_law_b1328 (xs : Nat → Int) (lx : Nat) (a1 : Nat) (a2 : Nat) (K18 : Int → MM → Option Int) (x3 : Int) (x90 : Int) (a91 : Nat) (x92 : Int) (x93 : Int) (x94 : Int) (M : MM) : Option Int := ((sX12_danger a91 x92 x93 x94 M).bind fun q_1 => (if wI x90 = wI (q_1.1) then (sL_law_b1792 xs lx a1 a2 K18 x3 q_1.2) else (some (0))))
def sL_law_b1301 (xs : Nat → Int) (lx : Nat) (a1 : Nat) (a2 : Nat) (K18 : Int → MM → Option Int) (x3 : Int) (a90 : Nat) (x91 : Int) (x92 : Int) (x93 : Int) (M : MM) : Option Int := ((sX11_danger a90 x91 x92 x93 M).bind fun q_1 => (if 0 ≤ wI (x3 + 1) ∧ wI (x3 + 1) < (lx : Int) then (if 0 ≤ wI (x3 + 2) ∧ wI (x3 + 2) < (lx : Int) then (if 0 ≤ wI (x3 + 3) ∧ wI (x3 + 3) < (lx : Int) then (if wI (xs (wI (x3 + 3)).toNat) = 0 then (sL_law_b1328 xs lx a1 a2 K18 x3 q_1 a2 (xs (wI (x3 + 1)).toNat) (xs (wI (x3 + 2)).toNat) 0 M) else (sL_law_b1328 xs lx a1 a2 K18 x3 q_1 a2 (xs (wI (x3 + 1)).toNat) (xs (wI (x3 + 2)).toNat) 1 M)) else none) else none) else none))
def sL_law_b1226 (xs : Nat → Int) (lx : Nat) (a1 : Nat) (a2 : Nat) (K18 : Int → MM → Option Int) (x3 : Int) (x90 : Int) (a91 : Nat) (x92 : Int) (x93 : Int) (x94 : Int) (x95 : Int) (M : MM) : Option Int := ((sX12_share a91 x92 x93 x94 x95 M).bind fun q_1 => (if wI x90 = wI (q_1.1) then (sL_law_b1792 xs lx a1 a2 K18 x3 q_1.2) else (some (0))))
def sL_law_b1194 (xs : Nat → Int) (lx : Nat) (a1 : Nat) (a2 : Nat) (K18 : Int → MM → Option Int) (x3 : Int) (a90 : Nat) (x91 : Int) (x92 : Int) (x93 : Int) (x94 : Int) (M : MM) : Option Int := ((sX11_share a90 x91 x92 x93 x94 M).bind fun q_1 => (if 0 ≤ wI (x3 + 1) ∧ wI (x3 + 1) < (lx : Int) then (if 0 ≤ wI (x3 + 2) ∧ wI (x3 + 2) < (lx : Int) then (if 0 ≤ wI (x3 + 3) ∧ wI (x3 + 3) < (lx : Int) then (if 0 ≤ wI (x3 + 4) ∧ wI (x3 + 4) < (lx : Int) then (if wI (xs (wI (x3 + 4)).toNat) = 0 then (sL_law_b1226 xs lx a1 a2 K18 x3 q_1 a2 (xs (wI (x3 + 1)).toNat) (xs (wI (x3 + 2)).toNat) (xs (wI (x3 + 3)).toNat) 0 M) else (sL_law_b1226 xs lx a1 a2 K18 x3 q_1 a2 (xs (wI (x3 + 1)).toNat) (xs (wI (x3 + 2)).toNat) (xs (wI (x3 + 3)).toNat) 1 M)) else none) else none) else none) else none))
def sL_law_b1004 (xs : Nat → Int) (lx : Nat) (a1 : Nat) (a2 : Nat) (K18 : Int → MM → Option Int) (x3 : Int) (y90 : Int) (a91 : Nat) (x92 : Int) (x93 : Int) (M : MM) : Option Int := ((sX12_uncle a91 x92 x93 M).bind fun q_1 => (if wJ y90 = wJ (q_1.1) then (sL_law_b1792 xs lx a1 a2 K18 x3 q_1.2) else (some (0))))
def sL_law_b982 (xs : Nat → Int) (lx : Nat) (a1 : Nat) (a2 : Nat) (K18 : Int → MM → Option Int) (x3 : Int) (a90 : Nat) (x91 : Int) (x92 : Int) (M : MM) : Option Int := ((sX11_uncle a90 x91 x92 M).bind fun q_1 => (if 0 ≤ wI (x3 + 1) ∧ wI (x3 + 1) < (lx : Int) then (if 0 ≤ wI (x3 + 2) ∧ wI (x3 + 2) < (lx : Int) then (if wI (xs (wI (x3 + 2)).toNat) = 0 then (sL_law_b1004 xs lx a1 a2 K18 x3 (q_1.1) a2 (xs (wI (x3 + 1)).toNat) 0 q_1.2) else (sL_law_b1004 xs lx a1 a2 K18 x3 (q_1.1) a2 (xs (wI (x3 + 1)).toNat) 1 q_1.2)) else none) else none))
def sL_law_b954 (xs : Nat → Int) (lx : Nat) (a1 : Nat) (a2 : Nat) (K18 : Int → MM → Option Int) (x3 : Int) (y90 : Int) (a91 : Nat) (x92 : Int) (x93 : Int) (x94 : Int) (x95 : Int) (x96 : Int) (M : MM) : Option Int := ((sX12_chance a91 x92 x93 x94 x95 x96 M).bind fun q_1 => (if wJ y90 = wJ (q_1.1) then (sL_law_b1792 xs lx a1 a2 K18 x3 q_1.2) else (some (0))))
def sL_law_b917 (xs : Nat → Int) (lx : Nat) (a1 : Nat) (a2 : Nat) (K18 : Int → MM → Option Int) (x3 : Int) (a90 : Nat) (x91 : Int) (x92 : Int) (x93 : Int) (x94 : Int) (x95 : Int) (M : MM) : Option Int := ((sX11_chance a90 x91 x92 x93 x94 x95 M).bind fun q_1 => (if 0 ≤ wI (x3 + 1) ∧ wI (x3 + 1) < (lx : Int) then (if 0 ≤ wI (x3 + 2) ∧ wI (x3 + 2) < (lx : Int) then (if 0 ≤ wI (x3 + 3) ∧ wI (x3 + 3) < (lx : Int) then (if 0 ≤ wI (x3 + 4) ∧ wI (x3 + 4) < (lx : Int) then (if 0 ≤ wI (x3 + 5) ∧ wI (x3 + 5) < (lx : Int) then (if wI (xs (wI (x3 + 5)).toNat) = 0 then (sL_law_b954 xs lx a1 a2 K18 x3 (q_1.1) a2 (xs (wI (x3 + 1)).toNat) (xs (wI (x3 + 2)).toNat) (xs (wI (x3 + 3)).toNat) (xs (wI (x3 + 4)).toNat) 0 q_1.2) else (sL_law_b954 xs lx a1 a2 K18 x3 (q_1.1) a2 (xs (wI (x3 + 1)).toNat) (xs (wI (x3 + 2)).toNat) (xs (wI (x3 + 3)).toNat) (xs (wI (x3 + 4)).toNat) 1 q_1.2)) else none) else none) else none) else none) else none))
def sL_law_b874 (xs : Nat → Int) (lx : Nat) (a1 : Nat) (a2 : Nat) (K18 : Int → MM → Option Int) (x3 : Int) (y90 : Int) (a91 : Nat) (x92 : Int) (x93 : Int) (x94 : Int) (x95 : Int) (M : MM) : Option Int := ((sX12_luck a91 x92 x93 x94 x95 M).bind fun q_1 => (if wJ y90 = wJ (q_1.1) then (sL_law_b1792 xs lx a1 a2 K18 x3 q_1.2) else (some (0))))
def sL_law_b842 (xs : Nat → Int) (lx : Nat) (a1 : Nat) (a2 : Nat) (K18 : Int → MM → Option Int) (x3 : Int) (a90 : Nat) (x91 : Int) (x92 : Int) (x93 : Int) (x94 : Int) (M : MM) : Option Int := ((sX11_luck a90 x91 x92 x93 x94 M).bind fun q_1 => (if 0 ≤ wI (x3 + 1) ∧ wI (x3 + 1) < (lx : Int) then (if 0 ≤ wI (x3 + 2) ∧ wI (x3 + 2) < (lx : Int) then (if 0 ≤ wI (x3 + 3) ∧ wI (x3 + 3) < (lx : Int) then (if 0 ≤ wI (x3 + 4) ∧ wI (x3 + 4) < (lx : Int) then (if wI (xs (wI (x3 + 4)).toNat) = 0 then (sL_law_b874 xs lx a1 a2 K18 x3 (q_1.1) a2 (xs (wI (x3 + 1)).toNat) (xs (wI (x3 + 2)).toNat) (xs (wI (x3 + 3)).toNat) 0 q_1.2) else (sL_law_b874 xs lx a1 a2 K18 x3 (q_1.1) a2 (xs (wI (x3 + 1)).toNat) (xs (wI (x3 + 2)).toNat) (xs (wI (x3 + 3)).toNat) 1 q_1.2)) else none) else none) else none) else none))
def sL_law_b761 (xs : Nat → Int) (lx : Nat) (a1 : Nat) (a2 : Nat) (K18 : Int → MM → Option Int) (x3 : Int) (y90 : Int) (a91 : Nat) (x92 : Int) (x93 : Int) (x94 : Int) (x95 : Int) (M : MM) : Option Int := ((sX12_hangs a91 x92 x93 x94 x95 M).bind fun q_1 => (if wJ y90 = wJ (q_1.1) then (sL_law_b1792 xs lx a1 a2 K18 x3 q_1.2) else (some (0))))
def sL_law_b729 (xs : Nat → Int) (lx : Nat) (a1 : Nat) (a2 : Nat) (K18 : Int → MM → Option Int) (x3 : Int) (a90 : Nat) (x91 : Int) (x92 : Int) (x93 : Int) (x94 : Int) (M : MM) : Option Int := ((sX11_hangs a90 x91 x92 x93 x94 M).bind fun q_1 => (if 0 ≤ wI (x3 + 1) ∧ wI (x3 + 1) < (lx : Int) then (if 0 ≤ wI (x3 + 2) ∧ wI (x3 + 2) < (lx : Int) then (if 0 ≤ wI (x3 + 3) ∧ wI (x3 + 3) < (lx : Int) then (if 0 ≤ wI (x3 + 4) ∧ wI (x3 + 4) < (lx : Int) then (if wI (xs (wI (x3 + 4)).toNat) = 0 then (sL_law_b761 xs lx a1 a2 K18 x3 (q_1.1) a2 (xs (wI (x3 + 1)).toNat) (xs (wI (x3 + 2)).toNat) (xs (wI (x3 + 3)).toNat) 0 q_1.2) else (sL_law_b761 xs lx a1 a2 K18 x3 (q_1.1) a2 (xs (wI (x3 + 1)).toNat) (xs (wI (x3 + 2)).toNat) (xs (wI (x3 + 3)).toNat) 1 q_1.2)) else none) else none) else none) else none))
def sL_law_b649 (xs : Nat → Int) (lx : Nat) (a1 : Nat) (a2 : Nat) (K18 : Int → MM → Option Int) (x3 : Int) (x90 : Int) (a91 : Nat) (x92 : Int) (x93 : Int) (x94 : Int) (M : MM) : Option Int := ((sX12_span a91 x92 x93 x94 M).bind fun q_1 => (if wI x90 = wI (q_1.1) then (sL_law_b1792 xs lx a1 a2 K18 x3 q_1.2) else (some (0))))
def sL_law_b622 (xs : Nat → Int) (lx : Nat) (a1 : Nat) (a2 : Nat) (K18 : Int → MM → Option Int) (x3 : Int) (a90 : Nat) (x91 : Int) (x92 : Int) (x93 : Int) (M : MM) : Option Int := ((sX11_span a90 x91 x92 x93 M).bind fun q_1 => (if 0 ≤ wI (x3 + 1) ∧ wI (x3 + 1) < (lx : Int) then (if 0 ≤ wI (x3 + 2) ∧ wI (x3 + 2) < (lx : Int) then (if 0 ≤ wI (x3 + 3) ∧ wI (x3 + 3) < (lx : Int) then (if wI (xs (wI (x3 + 3)).toNat) = 0 then (sL_law_b649 xs lx a1 a2 K18 x3 (q_1.1) a2 (xs (wI (x3 + 1)).toNat) (xs (wI (x3 + 2)).toNat) 0 q_1.2) else (sL_law_b649 xs lx a1 a2 K18 x3 (q_1.1) a2 (xs (wI (x3 + 1)).toNat) (xs (wI (x3 + 2)).toNat) 1 q_1.2)) else none) else none) else none))
def sL_law_b18 (xs : Nat → Int) (lx : Nat) (a1 : Nat) (a2 : Nat)  : Nat → Int → MM → Option Int
  | 0, _, _ => none
  | n + 1, x3, M => (if wI (((lx : Int)) - 6) < wI x3 then (some (1)) else (if 0 ≤ wI x3 ∧ wI x3 < (lx : Int) then (if wI ((xs (wI x3).toNat) % 64) = 0 then (if 0 ≤ wI (x3 + 1) ∧ wI (x3 + 1) < (lx : Int) then (if 0 ≤ wI (x3 + 2) ∧ wI (x3 + 2) < (lx : Int) then (if 0 ≤ wI (x3 + 3) ∧ wI (x3 + 3) < (lx : Int) then (if 0 ≤ wI (x3 + 4) ∧ wI (x3 + 4) < (lx : Int) then (if 0 ≤ wI (x3 + 5) ∧ wI (x3 + 5) < (lx : Int) then ((sX11_feed a1 (xs (wI (x3 + 1)).toNat) (xs (wI (x3 + 2)).toNat) (xs (wI (x3 + 3)).toNat) (xs (wI (x3 + 4)).toNat) (xs (wI (x3 + 5)).toNat) M).bind fun q_9 => (if 0 ≤ wI (x3 + 1) ∧ wI (x3 + 1) < (lx : Int) then (if 0 ≤ wI (x3 + 2) ∧ wI (x3 + 2) < (lx : Int) then (if 0 ≤ wI (x3 + 3) ∧ wI (x3 + 3) < (lx : Int) then (if 0 ≤ wI (x3 + 4) ∧ wI (x3 + 4) < (lx : Int) then (if 0 ≤ wI (x3 + 5) ∧ wI (x3 + 5) < (lx : Int) then ((sX12_feed a2 (xs (wI (x3 + 1)).toNat) (xs (wI (x3 + 2)).toNat) (xs (wI (x3 + 3)).toNat) (xs (wI (x3 + 4)).toNat) (xs (wI (x3 + 5)).toNat) q_9.2).bind fun q_15 => (if wI (q_9.1) = wI (q_15.1) then (sL_law_b1792 xs lx a1 a2 (fun x3 M => sL_law_b18 xs lx a1 a2 n x3 M) x3 q_15.2) else (some (0)))) else none) else none) else none) else none) else none)) else none) else none) else none) else none) else none) else (if wI ((xs (wI x3).toNat) % 64) = 1 then (if 0 ≤ wI (x3 + 1) ∧ wI (x3 + 1) < (lx : Int) then ((sX11_end a1 (xs (wI (x3 + 1)).toNat) M).bind fun q_19 => (if 0 ≤ wI (x3 + 1) ∧ wI (x3 + 1) < (lx : Int) then ((sX12_end a2 (xs (wI (x3 + 1)).toNat) q_19.2).bind fun q_21 => (if wI (q_19.1) = wI (q_21.1) then (sL_law_b1792 xs lx a1 a2 (fun x3 M => sL_law_b18 xs lx a1 a2 n x3 M) x3 q_21.2) else (some (0)))) else none)) else none) else (if wI ((xs (wI x3).toNat) % 64) = 2 then (if 0 ≤ wI (x3 + 1) ∧ wI (x3 + 1) < (lx : Int) then (if 0 ≤ wI (x3 + 2) ∧ wI (x3 + 2) < (lx : Int) then ((sX11_text a1 (xs (wI (x3 + 1)).toNat) (xs (wI (x3 + 2)).toNat) M).bind fun q_26 => (if 0 ≤ wI (x3 + 1) ∧ wI (x3 + 1) < (lx : Int) then (if 0 ≤ wI (x3 + 2) ∧ wI (x3 + 2) < (lx : Int) then ((sX12_text a2 (xs (wI (x3 + 1)).toNat) (xs (wI (x3 + 2)).toNat) q_26.2).bind fun q_29 => (if wI (q_26.1) = wI (q_29.1) then (sL_law_b1792 xs lx a1 a2 (fun x3 M => sL_law_b18 xs lx a1 a2 n x3 M) x3 q_29.2) else (some (0)))) else none) else none)) else none) else none) else (if wI ((xs (wI x3).toNat) % 64) = 3 then (if 0 ≤ wI (x3 + 1) ∧ wI (x3 + 1) < (lx : Int) then (if 0 ≤ wI (x3 + 1) ∧ wI (x3 + 1) < (lx : Int) then ((sX12_fault a2 (xs (wI (x3 + 1)).toNat) M).bind fun q_34 => (if wI (sX11_fault a1 (xs (wI (x3 + 1)).toNat) M) = wI (q_34.1) then (sL_law_b1792 xs lx a1 a2 (fun x3 M => sL_law_b18 xs lx a1 a2 n x3 M) x3 q_34.2) else (some (0)))) else none) else none) else (if wI ((xs (wI x3).toNat) % 64) = 4 then (if 0 ≤ wI (x3 + 1) ∧ wI (x3 + 1) < (lx : Int) then (if 0 ≤ wI (x3 + 2) ∧ wI (x3 + 2) < (lx : Int) then ((sX11_party a1 (xs (wI (x3 + 1)).toNat) (xs (wI (x3 + 2)).toNat) M).bind fun q_39 => (if 0 ≤ wI (x3 + 1) ∧ wI (x3 + 1) < (lx : Int) then (if 0 ≤ wI (x3 + 2) ∧ wI (x3 + 2) < (lx : Int) then ((sX12_party a2 (xs (wI (x3 + 1)).toNat) (xs (wI (x3 + 2)).toNat) M).bind fun q_42 => (if wI q_39 = wI (q_42.1) then (sL_law_b1792 xs lx a1 a2 (fun x3 M => sL_law_b18 xs lx a1 a2 n x3 M) x3 q_42.2) else (some (0)))) else none) else none)) else none) else none) else (if wI ((xs (wI x3).toNat) % 64) = 5 then (if 0 ≤ wI (x3 + 1) ∧ wI (x3 + 1) < (lx : Int) then (if 0 ≤ wI (x3 + 2) ∧ wI (x3 + 2) < (lx : Int) then (if 0 ≤ wI (x3 + 3) ∧ wI (x3 + 3) < (lx : Int) then ((sX11_child a1 (xs (wI (x3 + 1)).toNat) (xs (wI (x3 + 2)).toNat) (xs (wI (x3 + 3)).toNat) M).bind fun q_48 => (if 0 ≤ wI (x3 + 1) ∧ wI (x3 + 1) < (lx : Int) then (if 0 ≤ wI (x3 + 2) ∧ wI (x3 + 2) < (lx : Int) then (if 0 ≤ wI (x3 + 3) ∧ wI (x3 + 3) < (lx : Int) then ((sX12_child a2 (xs (wI (x3 + 1)).toNat) (xs (wI (x3 + 2)).toNat) (xs (wI (x3 + 3)).toNat) M).bind fun q_52 => (if wI q_48 = wI (q_52.1) then (sL_law_b1792 xs lx a1 a2 (fun x3 M => sL_law_b18 xs lx a1 a2 n x3 M) x3 q_52.2) else (some (0)))) else none) else none) else none)) else none) else none) else none) else (if wI ((xs (wI x3).toNat) % 64) = 6 then (if 0 ≤ wI (x3 + 1) ∧ wI (x3 + 1) < (lx : Int) then (if 0 ≤ wI (x3 + 2) ∧ wI (x3 + 2) < (lx : Int) then (if 0 ≤ wI (x3 + 3) ∧ wI (x3 + 3) < (lx : Int) then ((sX11_deed a1 (xs (wI (x3 + 1)).toNat) (xs (wI (x3 + 2)).toNat) (xs (wI (x3 + 3)).toNat) M).bind fun q_58 => (if 0 ≤ wI (x3 + 1) ∧ wI (x3 + 1) < (lx : Int) then (if 0 ≤ wI (x3 + 2) ∧ wI (x3 + 2) < (lx : Int) then (if 0 ≤ wI (x3 + 3) ∧ wI (x3 + 3) < (lx : Int) then ((sX12_deed a2 (xs (wI (x3 + 1)).toNat) (xs (wI (x3 + 2)).toNat) (xs (wI (x3 + 3)).toNat) M).bind fun q_62 => (if wI q_58 = wI (q_62.1) then (sL_law_b1792 xs lx a1 a2 (fun x3 M => sL_law_b18 xs lx a1 a2 n x3 M) x3 q_62.2) else (some (0)))) else none) else none) else none)) else none) else none) else none) else (if wI ((xs (wI x3).toNat) % 64) = 7 then (if 0 ≤ wI (x3 + 1) ∧ wI (x3 + 1) < (lx : Int) then (if 0 ≤ wI (x3 + 2) ∧ wI (x3 + 2) < (lx : Int) then ((sX11_stop a1 (xs (wI (x3 + 1)).toNat) (xs (wI (x3 + 2)).toNat) M).bind fun q_67 => (if 0 ≤ wI (x3 + 1) ∧ wI (x3 + 1) < (lx : Int) then (if 0 ≤ wI (x3 + 2) ∧ wI (x3 + 2) < (lx : Int) then ((sX12_stop a2 (xs (wI (x3 + 1)).toNat) (xs (wI (x3 + 2)).toNat) q_67.2).bind fun q_70 => (if wI (q_67.1) = wI (q_70.1) then (sL_law_b1792 xs lx a1 a2 (fun x3 M => sL_law_b18 xs lx a1 a2 n x3 M) x3 q_70.2) else (some (0)))) else none) else none)) else none) else none) else (if wI ((xs (wI x3).toNat) % 64) = 8 then (if 0 ≤ wI (x3 + 1) ∧ wI (x3 + 1) < (lx : Int) then (if 0 ≤ wI (x3 + 2) ∧ wI (x3 + 2) < (lx : Int) then (if 0 ≤ wI (x3 + 3) ∧ wI (x3 + 3) < (lx : Int) then (if 0 ≤ wI (x3 + 4) ∧ wI (x3 + 4) < (lx : Int) then ((sX11_state a1 (xs (wI (x3 + 1)).toNat) (xs (wI (x3 + 2)).toNat) (xs (wI (x3 + 3)).toNat) (xs (wI (x3 + 4)).toNat) M).bind fun q_77 => (if 0 ≤ wI (x3 + 1) ∧ wI (x3 + 1) < (lx : Int) then (if 0 ≤ wI (x3 + 2) ∧ wI (x3 + 2) < (lx : Int) then (if 0 ≤ wI (x3 + 3) ∧ wI (x3 + 3) < (lx : Int) then (if 0 ≤ wI (x3 + 4) ∧ wI (x3 + 4) < (lx : Int) then ((sX12_state a2 (xs (wI (x3 + 1)).toNat) (xs (wI (x3 + 2)).toNat) (xs (wI (x3 + 3)).toNat) (xs (wI (x3 + 4)).toNat) q_77.2).bind fun q_82 => (if wI (q_77.1) = wI (q_82.1) then (sL_law_b1792 xs lx a1 a2 (fun x3 M => sL_law_b18 xs lx a1 a2 n x3 M) x3 q_82.2) else (some (0)))) else none) else none) else none) else none)) else none) else none) else none) else none) else (if wI ((xs (wI x3).toNat) % 64) = 9 then (if 0 ≤ wI (x3 + 1) ∧ wI (x3 + 1) < (lx : Int) then (if 0 ≤ wI (x3 + 2) ∧ wI (x3 + 2) < (lx : Int) then (if 0 ≤ wI (x3 + 3) ∧ wI (x3 + 3) < (lx : Int) then (if 0 ≤ wI (x3 + 4) ∧ wI (x3 + 4) < (lx : Int) then (if 0 ≤ wI (x3 + 5) ∧ wI (x3 + 5) < (lx : Int) then ((sX11_did a1 (xs (wI (x3 + 1)).toNat) (xs (wI (x3 + 2)).toNat) (xs (wI (x3 + 3)).toNat) (xs (wI (x3 + 4)).toNat) (xs (wI (x3 + 5)).toNat) M).bind fun q_90 => (if 0 ≤ wI (x3 + 1) ∧ wI (x3 + 1) < (lx : Int) then (if 0 ≤ wI (x3 + 2) ∧ wI (x3 + 2) < (lx : Int) then (if 0 ≤ wI (x3 + 3) ∧ wI (x3 + 3) < (lx : Int) then (if 0 ≤ wI (x3 + 4) ∧ wI (x3 + 4) < (lx : Int) then (if 0 ≤ wI (x3 + 5) ∧ wI (x3 + 5) < (lx : Int) then ((sX12_did a2 (xs (wI (x3 + 1)).toNat) (xs (wI (x3 + 2)).toNat) (xs (wI (x3 + 3)).toNat) (xs (wI (x3 + 4)).toNat) (xs (wI (x3 + 5)).toNat) q_90.2).bind fun q_96 => (if wI (q_90.1) = wI (q_96.1) then (sL_law_b1792 xs lx a1 a2 (fun x3 M => sL_law_b18 xs lx a1 a2 n x3 M) x3 q_96.2) else (some (0)))) else none) else none) else none) else none) else none)) else none) else none) else none) else none) else none) else (if wI ((xs (wI x3).toNat) % 64) = 10 then (if 0 ≤ wI (x3 + 1) ∧ wI (x3 + 1) < (lx : Int) then (if 0 ≤ wI (x3 + 2) ∧ wI (x3 + 2) < (lx : Int) then (if 0 ≤ wI (x3 + 3) ∧ wI (x3 + 3) < (lx : Int) then (if wI (xs (wI (x3 + 3)).toNat) = 0 then (sL_law_b622 xs lx a1 a2 (fun x3 M => sL_law_b18 xs lx a1 a2 n x3 M) x3 a1 (xs (wI (x3 + 1)).toNat) (xs (wI (x3 + 2)).toNat) 0 M) else (sL_law_b622 xs lx a1 a2 (fun x3 M => sL_law_b18 xs lx a1 a2 n x3 M) x3 a1 (xs (wI (x3 + 1)).toNat) (xs (wI (x3 + 2)).toNat) 1 M)) else none) else none) else none) else (if wI ((xs (wI x3).toNat) % 64) = 11 then (if 0 ≤ wI (x3 + 1) ∧ wI (x3 + 1) < (lx : Int) then (if 0 ≤ wI (x3 + 2) ∧ wI (x3 + 2) < (lx : Int) then (if 0 ≤ wI (x3 + 3) ∧ wI (x3 + 3) < (lx : Int) then ((sX11_clue a1 (xs (wI (x3 + 1)).toNat) (xs (wI (x3 + 2)).toNat) (xs (wI (x3 + 3)).toNat) M).bind fun q_107 => (if 0 ≤ wI (x3 + 1) ∧ wI (x3 + 1) < (lx : Int) then (if 0 ≤ wI (x3 + 2) ∧ wI (x3 + 2) < (lx : Int) then (if 0 ≤ wI (x3 + 3) ∧ wI (x3 + 3) < (lx : Int) then ((sX12_clue a2 (xs (wI (x3 + 1)).toNat) (xs (wI (x3 + 2)).toNat) (xs (wI (x3 + 3)).toNat) M).bind fun q_111 => (if wI q_107 = wI (q_111.1) then (sL_law_b1792 xs lx a1 a2 (fun x3 M => sL_law_b18 xs lx a1 a2 n x3 M) x3 q_111.2) else (some (0)))) else none) else none) else none)) else none) else none) else none) else (if wI ((xs (wI x3).toNat) % 64) = 12 then (if 0 ≤ wI (x3 + 1) ∧ wI (x3 + 1) < (lx : Int) then (if 0 ≤ wI (x3 + 2) ∧ wI (x3 + 2) < (lx : Int) then (if 0 ≤ wI (x3 + 3) ∧ wI (x3 + 3) < (lx : Int) then (if 0 ≤ wI (x3 + 4) ∧ wI (x3 + 4) < (lx : Int) then (if wI (xs (wI (x3 + 4)).toNat) = 0 then (sL_law_b729 xs lx a1 a2 (fun x3 M => sL_law_b18 xs lx a1 a2 n x3 M) x3 a1 (xs (wI (x3 + 1)).toNat) (xs (wI (x3 + 2)).toNat) (xs (wI (x3 + 3)).toNat) 0 M) else (sL_law_b729 xs lx a1 a2 (fun x3 M => sL_law_b18 xs lx a1 a2 n x3 M) x3 a1 (xs (wI (x3 + 1)).toNat) (xs (wI (x3 + 2)).toNat) (xs (wI (x3 + 3)).toNat) 1 M)) else none) else none) else none) else none) else (if wI ((xs (wI x3).toNat) % 64) = 13 then (if 0 ≤ wI (x3 + 1) ∧ wI (x3 + 1) < (lx : Int) then (if 0 ≤ wI (x3 + 2) ∧ wI (x3 + 2) < (lx : Int) then (if 0 ≤ wI (x3 + 3) ∧ wI (x3 + 3) < (lx : Int) then ((sX11_aim a1 (xs (wI (x3 + 1)).toNat) (xs (wI (x3 + 2)).toNat) (xs (wI (x3 + 3)).toNat) M).bind fun q_123 => (if 0 ≤ wI (x3 + 1) ∧ wI (x3 + 1) < (lx : Int) then (if 0 ≤ wI (x3 + 2) ∧ wI (x3 + 2) < (lx : Int) then (if 0 ≤ wI (x3 + 3) ∧ wI (x3 + 3) < (lx : Int) then ((sX12_aim a2 (xs (wI (x3 + 1)).toNat) (xs (wI (x3 + 2)).toNat) (xs (wI (x3 + 3)).toNat) q_123.2).bind fun q_127 => (if wI (q_123.1) = wI (q_127.1) then (sL_law_b1792 xs lx a1 a2 (fun x3 M => sL_law_b18 xs lx a1 a2 n x3 M) x3 q_127.2) else (some (0)))) else none) else none) else none)) else none) else none) else none) else (if wI ((xs (wI x3).toNat) % 64) = 14 then (if 0 ≤ wI (x3 + 1) ∧ wI (x3 + 1) < (lx : Int) then (if 0 ≤ wI (x3 + 2) ∧ wI (x3 + 2) < (lx : Int) then (if 0 ≤ wI (x3 + 3) ∧ wI (x3 + 3) < (lx : Int) then (if 0 ≤ wI (x3 + 4) ∧ wI (x3 + 4) < (lx : Int) then (if wI (xs (wI (x3 + 4)).toNat) = 0 then (sL_law_b842 xs lx a1 a2 (fun x3 M => sL_law_b18 xs lx a1 a2 n x3 M) x3 a1 (xs (wI (x3 + 1)).toNat) (xs (wI (x3 + 2)).toNat) (xs (wI (x3 + 3)).toNat) 0 M) else (sL_law_b842 xs lx a1 a2 (fun x3 M => sL_law_b18 xs lx a1 a2 n x3 M) x3 a1 (xs (wI (x3 + 1)).toNat) (xs (wI (x3 + 2)).toNat) (xs (wI (x3 + 3)).toNat) 1 M)) else none) else none) else none) else none) else (if wI ((xs (wI x3).toNat) % 64) = 15 then (if 0 ≤ wI (x3 + 1) ∧ wI (x3 + 1) < (lx : Int) then (if 0 ≤ wI (x3 + 2) ∧ wI (x3 + 2) < (lx : Int) then (if 0 ≤ wI (x3 + 3) ∧ wI (x3 + 3) < (lx : Int) then (if 0 ≤ wI (x3 + 4) ∧ wI (x3 + 4) < (lx : Int) then (if 0 ≤ wI (x3 + 5) ∧ wI (x3 + 5) < (lx : Int) then (if wI (xs (wI (x3 + 5)).toNat) = 0 then (sL_law_b917 xs lx a1 a2 (fun x3 M => sL_law_b18 xs lx a1 a2 n x3 M) x3 a1 (xs (wI (x3 + 1)).toNat) (xs (wI (x3 + 2)).toNat) (xs (wI (x3 + 3)).toNat) (xs (wI (x3 + 4)).toNat) 0 M) else (sL_law_b917 xs lx a1 a2 (fun x3 M => sL_law_b18 xs lx a1 a2 n x3 M) x3 a1 (xs (wI (x3 + 1)).toNat) (xs (wI (x3 + 2)).toNat) (xs (wI (x3 + 3)).toNat) (xs (wI (x3 + 4)).toNat) 1 M)) else none) else none) else none) else none) else none) else (if wI ((xs (wI x3).toNat) % 64) = 16 then (if 0 ≤ wI (x3 + 1) ∧ wI (x3 + 1) < (lx : Int) then (if 0 ≤ wI (x3 + 2) ∧ wI (x3 + 2) < (lx : Int) then (if wI (xs (wI (x3 + 2)).toNat) = 0 then (sL_law_b982 xs lx a1 a2 (fun x3 M => sL_law_b18 xs lx a1 a2 n x3 M) x3 a1 (xs (wI (x3 + 1)).toNat) 0 M) else (sL_law_b982 xs lx a1 a2 (fun x3 M => sL_law_b18 xs lx a1 a2 n x3 M) x3 a1 (xs (wI (x3 + 1)).toNat) 1 M)) else none) else none) else (if wI ((xs (wI x3).toNat) % 64) = 17 then (if 0 ≤ wI (x3 + 1) ∧ wI (x3 + 1) < (lx : Int) then (if 0 ≤ wI (x3 + 2) ∧ wI (x3 + 2) < (lx : Int) then (if 0 ≤ wI (x3 + 3) ∧ wI (x3 + 3) < (lx : Int) then (if 0 ≤ wI (x3 + 4) ∧ wI (x3 + 4) < (lx : Int) then ((sX11_lifts a1 (xs (wI (x3 + 1)).toNat) (xs (wI (x3 + 2)).toNat) (xs (wI (x3 + 3)).toNat) (xs (wI (x3 + 4)).toNat) M).bind fun q_151 => (if 0 ≤ wI (x3 + 1) ∧ wI (x3 + 1) < (lx : Int) then (if 0 ≤ wI (x3 + 2) ∧ wI (x3 + 2) < (lx : Int) then (if 0 ≤ wI (x3 + 3) ∧ wI (x3 + 3) < (lx : Int) then (if 0 ≤ wI (x3 + 4) ∧ wI (x3 + 4) < (lx : Int) then ((sX12_lifts a2 (xs (wI (x3 + 1)).toNat) (xs (wI (x3 + 2)).toNat) (xs (wI (x3 + 3)).toNat) (xs (wI (x3 + 4)).toNat) q_151.2).bind fun q_156 => (if wI (q_151.1) = wI (q_156.1) then (sL_law_b1792 xs lx a1 a2 (fun x3 M => sL_law_b18 xs lx a1 a2 n x3 M) x3 q_156.2) else (some (0)))) else none) else none) else none) else none)) else none) else none) else none) else none) else (if wI ((xs (wI x3).toNat) % 64) = 18 then (if 0 ≤ wI (x3 + 1) ∧ wI (x3 + 1) < (lx : Int) then ((sX11_fair a1 (xs (wI (x3 + 1)).toNat) M).bind fun q_160 => (if 0 ≤ wI (x3 + 1) ∧ wI (x3 + 1) < (lx : Int) then ((sX12_fair a2 (xs (wI (x3 + 1)).toNat) q_160.2).bind fun q_162 => (if wI (q_160.1) = wI (q_162.1) then (sL_law_b1792 xs lx a1 a2 (fun x3 M => sL_law_b18 xs lx a1 a2 n x3 M) x3 q_162.2) else (some (0)))) else none)) else none) else (if wI ((xs (wI x3).toNat) % 64) = 19 then (if 0 ≤ wI (x3 + 1) ∧ wI (x3 + 1) < (lx : Int) then ((sX11_thick a1 (xs (wI (x3 + 1)).toNat) M).bind fun q_166 => (if 0 ≤ wI (x3 + 1) ∧ wI (x3 + 1) < (lx : Int) then ((sX12_thick a2 (xs (wI (x3 + 1)).toNat) q_166.2).bind fun q_168 => (if wI (q_166.1) = wI (q_168.1) then (sL_law_b1792 xs lx a1 a2 (fun x3 M => sL_law_b18 xs lx a1 a2 n x3 M) x3 q_168.2) else (some (0)))) else none)) else none) else (if wI ((xs (wI x3).toNat) % 64) = 20 then (if 0 ≤ wI (x3 + 1) ∧ wI (x3 + 1) < (lx : Int) then (if 0 ≤ wI (x3 + 2) ∧ wI (x3 + 2) < (lx : Int) then (if 0 ≤ wI (x3 + 3) ∧ wI (x3 + 3) < (lx : Int) then (if 0 ≤ wI (x3 + 4) ∧ wI (x3 + 4) < (lx : Int) then ((sX11_cell a1 (xs (wI (x3 + 1)).toNat) (xs (wI (x3 + 2)).toNat) (xs (wI (x3 + 3)).toNat) (xs (wI (x3 + 4)).toNat) M).bind fun q_175 => (if 0 ≤ wI (x3 + 1) ∧ wI (x3 + 1) < (lx : Int) then (if 0 ≤ wI (x3 + 2) ∧ wI (x3 + 2) < (lx : Int) then (if 0 ≤ wI (x3 + 3) ∧ wI (x3 + 3) < (lx : Int) then (if 0 ≤ wI (x3 + 4) ∧ wI (x3 + 4) < (lx : Int) then ((sX12_cell a2 (xs (wI (x3 + 1)).toNat) (xs (wI (x3 + 2)).toNat) (xs (wI (x3 + 3)).toNat) (xs (wI (x3 + 4)).toNat) M).bind fun q_180 => (if wI q_175 = wI (q_180.1) then (sL_law_b1792 xs lx a1 a2 (fun x3 M => sL_law_b18 xs lx a1 a2 n x3 M) x3 q_180.2) else (some (0)))) else none) else none) else none) else none)) else none) else none) else none) else none) else (if wI ((xs (wI x3).toNat) % 64) = 21 then (if 0 ≤ wI (x3 + 1) ∧ wI (x3 + 1) < (lx : Int) then (if 0 ≤ wI (x3 + 2) ∧ wI (x3 + 2) < (lx : Int) then (if 0 ≤ wI (x3 + 3) ∧ wI (x3 + 3) < (lx : Int) then (if 0 ≤ wI (x3 + 4) ∧ wI (x3 + 4) < (lx : Int) then (if wI (xs (wI (x3 + 4)).toNat) = 0 then (sL_law_b1194 xs lx a1 a2 (fun x3 M => sL_law_b18 xs lx a1 a2 n x3 M) x3 a1 (xs (wI (x3 + 1)).toNat) (xs (wI (x3 + 2)).toNat) (xs (wI (x3 + 3)).toNat) 0 M) else (sL_law_b1194 xs lx a1 a2 (fun x3 M => sL_law_b18 xs lx a1 a2 n x3 M) x3 a1 (xs (wI (x3 + 1)).toNat) (xs (wI (x3 + 2)).toNat) (xs (wI (x3 + 3)).toNat) 1 M)) else none) else none) else none) else none) else (if wI ((xs (wI x3).toNat) % 64) = 22 then (if 0 ≤ wI (x3 + 1) ∧ wI (x3 + 1) < (lx : Int) then (if 0 ≤ wI (x3 + 2) ∧ wI (x3 + 2) < (lx : Int) then (if 0 ≤ wI (x3 + 3) ∧ wI (x3 + 3) < (lx : Int) then ((sX11_stand a1 (xs (wI (x3 + 1)).toNat) (xs (wI (x3 + 2)).toNat) (xs (wI (x3 + 3)).toNat) M).bind fun q_192 => (if 0 ≤ wI (x3 + 1) ∧ wI (x3 + 1) < (lx : Int) then (if 0 ≤ wI (x3 + 2) ∧ wI (x3 + 2) < (lx : Int) then (if 0 ≤ wI (x3 + 3) ∧ wI (x3 + 3) < (lx : Int) then ((sX12_stand a2 (xs (wI (x3 + 1)).toNat) (xs (wI (x3 + 2)).toNat) (xs (wI (x3 + 3)).toNat) M).bind fun q_196 => (if wI q_192 = wI (q_196.1) then (sL_law_b1792 xs lx a1 a2 (fun x3 M => sL_law_b18 xs lx a1 a2 n x3 M) x3 q_196.2) else (some (0)))) else none) else none) else none)) else none) else none) else none) else (if wI ((xs (wI x3).toNat) % 64) = 23 then (if 0 ≤ wI (x3 + 1) ∧ wI (x3 + 1) < (lx : Int) then (if 0 ≤ wI (x3 + 2) ∧ wI (x3 + 2) < (lx : Int) then (if 0 ≤ wI (x3 + 3) ∧ wI (x3 + 3) < (lx : Int) then (if wI (xs (wI (x3 + 3)).toNat) = 0 then (sL_law_b1301 xs lx a1 a2 (fun x3 M => sL_law_b18 xs lx a1 a2 n x3 M) x3 a1 (xs (wI (x3 + 1)).toNat) (xs (wI (x3 + 2)).toNat) 0 M) else (sL_law_b1301 xs lx a1 a2 (fun x3 M => sL_law_b18 xs lx a1 a2 n x3 M) x3 a1 (xs (wI (x3 + 1)).toNat) (xs (wI (x3 + 2)).toNat) 1 M)) else none) else none) else none) else (if wI ((xs (wI x3).toNat) % 64) = 24 then (if 0 ≤ wI (x3 + 1) ∧ wI (x3 + 1) < (lx : Int) then (if 0 ≤ wI (x3 + 2) ∧ wI (x3 + 2) < (lx : Int) then ((sX11_safe a1 (xs (wI (x3 + 1)).toNat) (xs (wI (x3 + 2)).toNat) M).bind fun q_206 => (if 0 ≤ wI (x3 + 1) ∧ wI (x3 + 1) < (lx : Int) then (if 0 ≤ wI (x3 + 2) ∧ wI (x3 + 2) < (lx : Int) then ((sX12_safe a2 (xs (wI (x3 + 1)).toNat) (xs (wI (x3 + 2)).toNat) M).bind fun q_209 => (if wI q_206 = wI (q_209.1) then (sL_law_b1792 xs lx a1 a2 (fun x3 M => sL_law_b18 xs lx a1 a2 n x3 M) x3 q_209.2) else (some (0)))) else none) else none)) else none) else none) else (if wI ((xs (wI x3).toNat) % 64) = 25 then (if 0 ≤ wI (x3 + 1) ∧ wI (x3 + 1) < (lx : Int) then (if 0 ≤ wI (x3 + 2) ∧ wI (x3 + 2) < (lx : Int) then (if 0 ≤ wI (x3 + 3) ∧ wI (x3 + 3) < (lx : Int) then ((sX11_fell a1 (xs (wI (x3 + 1)).toNat) (xs (wI (x3 + 2)).toNat) (xs (wI (x3 + 3)).toNat) M).bind fun q_215 => (if 0 ≤ wI (x3 + 1) ∧ wI (x3 + 1) < (lx : Int) then (if 0 ≤ wI (x3 + 2) ∧ wI (x3 + 2) < (lx : Int) then (if 0 ≤ wI (x3 + 3) ∧ wI (x3 + 3) < (lx : Int) then ((sX12_fell a2 (xs (wI (x3 + 1)).toNat) (xs (wI (x3 + 2)).toNat) (xs (wI (x3 + 3)).toNat) M).bind fun q_219 => (if wI q_215 = wI (q_219.1) then (sL_law_b1792 xs lx a1 a2 (fun x3 M => sL_law_b18 xs lx a1 a2 n x3 M) x3 q_219.2) else (some (0)))) else none) else none) else none)) else none) else none) else none) else (if wI ((xs (wI x3).toNat) % 64) = 26 then (if 0 ≤ wI (x3 + 1) ∧ wI (x3 + 1) < (lx : Int) then (if 0 ≤ wI (x3 + 2) ∧ wI (x3 + 2) < (lx : Int) then (if 0 ≤ wI (x3 + 3) ∧ wI (x3 + 3) < (lx : Int) then (if 0 ≤ wI (x3 + 4) ∧ wI (x3 + 4) < (lx : Int) then (if 0 ≤ wI (x3 + 5) ∧ wI (x3 + 5) < (lx : Int) then ((sX11_bag a1 (xs (wI (x3 + 1)).toNat) (xs (wI (x3 + 2)).toNat) (xs (wI (x3 + 3)).toNat) (xs (wI (x3 + 4)).toNat) (xs (wI (x3 + 5)).toNat) M).bind fun q_227 => (if 0 ≤ wI (x3 + 1) ∧ wI (x3 + 1) < (lx : Int) then (if 0 ≤ wI (x3 + 2) ∧ wI (x3 + 2) < (lx : Int) then (if 0 ≤ wI (x3 + 3) ∧ wI (x3 + 3) < (lx : Int) then (if 0 ≤ wI (x3 + 4) ∧ wI (x3 + 4) < (lx : Int) then (if 0 ≤ wI (x3 + 5) ∧ wI (x3 + 5) < (lx : Int) then ((sX12_bag a2 (xs (wI (x3 + 1)).toNat) (xs (wI (x3 + 2)).toNat) (xs (wI (x3 + 3)).toNat) (xs (wI (x3 + 4)).toNat) (xs (wI (x3 + 5)).toNat) q_227.2).bind fun q_233 => (if wI (q_227.1) = wI (q_233.1) then (sL_law_b1792 xs lx a1 a2 (fun x3 M => sL_law_b18 xs lx a1 a2 n x3 M) x3 q_233.2) else (some (0)))) else none) else none) else none) else none) else none)) else none) else none) else none) else none) else none) else (if wI ((xs (wI x3).toNat) % 64) = 27 then (if 0 ≤ wI (x3 + 1) ∧ wI (x3 + 1) < (lx : Int) then (if 0 ≤ wI (x3 + 2) ∧ wI (x3 + 2) < (lx : Int) then ((sX11_record a1 (xs (wI (x3 + 1)).toNat) (xs (wI (x3 + 2)).toNat) M).bind fun q_238 => (if 0 ≤ wI (x3 + 1) ∧ wI (x3 + 1) < (lx : Int) then (if 0 ≤ wI (x3 + 2) ∧ wI (x3 + 2) < (lx : Int) then ((sX12_record a2 (xs (wI (x3 + 1)).toNat) (xs (wI (x3 + 2)).toNat) M).bind fun q_241 => (if wI q_238 = wI (q_241.1) then (sL_law_b1792 xs lx a1 a2 (fun x3 M => sL_law_b18 xs lx a1 a2 n x3 M) x3 q_241.2) else (some (0)))) else none) else none)) else none) else none) else (if wI ((xs (wI x3).toNat) % 64) = 28 then (if 0 ≤ wI (x3 + 1) ∧ wI (x3 + 1) < (lx : Int) then (if 0 ≤ wI (x3 + 2) ∧ wI (x3 + 2) < (lx : Int) then (if 0 ≤ wI (x3 + 3) ∧ wI (x3 + 3) < (lx : Int) then (if wI (xs (wI (x3 + 3)).toNat) = 0 then (sL_law_b1532 xs lx a1 a2 (fun x3 M => sL_law_b18 xs lx a1 a2 n x3 M) x3 a1 (xs (wI (x3 + 1)).toNat) (xs (wI (x3 + 2)).toNat) 0 M) else (sL_law_b1532 xs lx a1 a2 (fun x3 M => sL_law_b18 xs lx a1 a2 n x3 M) x3 a1 (xs (wI (x3 + 1)).toNat) (xs (wI (x3 + 2)).toNat) 1 M)) else none) else none) else none) else (if wI ((xs (wI x3).toNat) % 64) = 29 then (if 0 ≤ wI (x3 + 1) ∧ wI (x3 + 1) < (lx : Int) then (if 0 ≤ wI (x3 + 2) ∧ wI (x3 + 2) < (lx : Int) then (if 0 ≤ wI (x3 + 3) ∧ wI (x3 + 3) < (lx : Int) then (if 0 ≤ wI (x3 + 4) ∧ wI (x3 + 4) < (lx : Int) then (if wI (xs (wI (x3 + 4)).toNat) = 0 then (sL_law_b1596 xs lx a1 a2 (fun x3 M => sL_law_b18 xs lx a1 a2 n x3 M) x3 a1 (xs (wI (x3 + 1)).toNat) (xs (wI (x3 + 2)).toNat) (xs (wI (x3 + 3)).toNat) 0 M) else (sL_law_b1596 xs lx a1 a2 (fun x3 M => sL_law_b18 xs lx a1 a2 n x3 M) x3 a1 (xs (wI (x3 + 1)).toNat) (xs (wI (x3 + 2)).toNat) (xs (wI (x3 + 3)).toNat) 1 M)) else none) else none) else none) else none) else (if wI ((xs (wI x3).toNat) % 64) = 30 then (if 0 ≤ wI (x3 + 1) ∧ wI (x3 + 1) < (lx : Int) then (if 0 ≤ wI (x3 + 2) ∧ wI (x3 + 2) < (lx : Int) then (if 0 ≤ wI (x3 + 3) ∧ wI (x3 + 3) < (lx : Int) then ((sX11_many a1 (xs (wI (x3 + 1)).toNat) (xs (wI (x3 + 2)).toNat) (xs (wI (x3 + 3)).toNat)).bind fun q_258 => (if 0 ≤ wI (x3 + 1) ∧ wI (x3 + 1) < (lx : Int) then (if 0 ≤ wI (x3 + 2) ∧ wI (x3 + 2) < (lx : Int) then (if 0 ≤ wI (x3 + 3) ∧ wI (x3 + 3) < (lx : Int) then ((sX12_many a2 (xs (wI (x3 + 1)).toNat) (xs (wI (x3 + 2)).toNat) (xs (wI (x3 + 3)).toNat) M).bind fun q_262 => (if wI q_258 = wI (q_262.1) then (sL_law_b1792 xs lx a1 a2 (fun x3 M => sL_law_b18 xs lx a1 a2 n x3 M) x3 q_262.2) else (some (0)))) else none) else none) else none)) else none) else none) else none) else (if wI ((xs (wI x3).toNat) % 64) = 31 then (if 0 ≤ wI (x3 + 1) ∧ wI (x3 + 1) < (lx : Int) then (if 0 ≤ wI (x3 + 2) ∧ wI (x3 + 2) < (lx : Int) then (if 0 ≤ wI (x3 + 3) ∧ wI (x3 + 3) < (lx : Int) then ((sX11_drawn a1 (xs (wI (x3 + 1)).toNat) (xs (wI (x3 + 2)).toNat) (xs (wI (x3 + 3)).toNat) M).bind fun q_268 => (if 0 ≤ wI (x3 + 1) ∧ wI (x3 + 1) < (lx : Int) then (if 0 ≤ wI (x3 + 2) ∧ wI (x3 + 2) < (lx : Int) then (if 0 ≤ wI (x3 + 3) ∧ wI (x3 + 3) < (lx : Int) then ((sX12_drawn a2 (xs (wI (x3 + 1)).toNat) (xs (wI (x3 + 2)).toNat) (xs (wI (x3 + 3)).toNat) q_268.2).bind fun q_272 => (if wI (q_268.1) = wI (q_272.1) then (sL_law_b1792 xs lx a1 a2 (fun x3 M => sL_law_b18 xs lx a1 a2 n x3 M) x3 q_272.2) else (some (0)))) else none) else none) else none)) else none) else none) else none) else (if wI ((xs (wI x3).toNat) % 64) = 32 then (if 0 ≤ wI (x3 + 1) ∧ wI (x3 + 1) < (lx : Int) then ((sX11_count a1 (xs (wI (x3 + 1)).toNat) M).bind fun q_276 => (if 0 ≤ wI (x3 + 1) ∧ wI (x3 + 1) < (lx : Int) then ((sX12_count a2 (xs (wI (x3 + 1)).toNat) M).bind fun q_278 => (if wI q_276 = wI (q_278.1) then (sL_law_b1792 xs lx a1 a2 (fun x3 M => sL_law_b18 xs lx a1 a2 n x3 M) x3 q_278.2) else (some (0)))) else none)) else none) else (if wI ((xs (wI x3).toNat) % 64) = 33 then (if 0 ≤ wI (x3 + 1) ∧ wI (x3 + 1) < (lx : Int) then ((sX11_image a1 (xs (wI (x3 + 1)).toNat) M).bind fun q_282 => (if 0 ≤ wI (x3 + 1) ∧ wI (x3 + 1) < (lx : Int) then ((sX12_image a2 (xs (wI (x3 + 1)).toNat) q_282.2).bind fun q_284 => (if wI (q_282.1) = wI (q_284.1) then (sL_law_b1792 xs lx a1 a2 (fun x3 M => sL_law_b18 xs lx a1 a2 n x3 M) x3 q_284.2) else (some (0)))) else none)) else none) else (if wI ((xs (wI x3).toNat) % 64) = 34 then (if 0 ≤ wI (x3 + 1) ∧ wI (x3 + 1) < (lx : Int) then ((sX11_again a1 (xs (wI (x3 + 1)).toNat) M).bind fun q_288 => (if 0 ≤ wI (x3 + 1) ∧ wI (x3 + 1) < (lx : Int) then ((sX12_again a2 (xs (wI (x3 + 1)).toNat) q_288.2).bind fun q_290 => (if wI (q_288.1) = wI (q_290.1) then (sL_law_b1792 xs lx a1 a2 (fun x3 M => sL_law_b18 xs lx a1 a2 n x3 M) x3 q_290.2) else (some (0)))) else none)) else none) else (sL_law_b1792 xs lx a1 a2 (fun x3 M => sL_law_b18 xs lx a1 a2 n x3 M) x3 M)))))))))))))))))))))))))))))))))))) else none))
set_option maxHeartbeats 4000000 in
set_option maxRecDepth 100000 in
theorem bL_law_b1792 {G : GG} {ce sl : Nat} (hce : ce ≤ 600000 ∧ sl ≤ 7302250) (xs : Nat → Int) (lx : Nat) (c0 : Nat) (a1 : Nat) (a2 : Nat) (oa1 : OB L0 a1 11) (oa2 : OB L0 a2 12) {K18 : Int → MM → Option Int} (x3 : Int) (M : MM)  (hK18 : ∀ (x3 : Int) (M : MM), K18 x3 M = some 1 → VV G xL_law (ZL G c0 lx xs) L0 M ce sl 18 [(0, .ref c0), (1, .ref (gA G a1)), (2, .ref (gA G a2)), (3, .int (eI x3))] [])  (h : sL_law_b1792 xs lx a1 a2 K18 x3 M = some 1) : VV G xL_law (ZL G c0 lx xs) L0 M ce sl 1792 [(0, .ref c0), (1, .ref (gA G a1)), (2, .ref (gA G a2)), (3, .int (eI x3))] [] := by
  unfold sL_law_b1792 at h
  obtain ⟨v_1, hv_1, h⟩ := ob h
  refine r_iinc (pc := 1792) (y := v_1) (lv' := [(3, .int (eI v_1)), (0, .ref c0), (1, .ref (gA G a1)), (2, .ref (gA G a2))]) dL_law_1792 3 rfl (Option.some.inj hv_1) (Nat.le_of_ble_eq_true rfl) rfl ?_
  refine r_goto (pc := 1795) (tgt := 18) dL_law_1795 (by decide) ?_
  refine r_sub (lv' := [(0, .ref c0), (1, .ref (gA G a1)), (2, .ref (gA G a2)), (3, .int (eI v_1))]) [1, 2, 3, 0] rfl ?_
  exact hK18 _ _ h
set_option maxHeartbeats 4000000 in
set_option maxRecDepth 100000 in
theorem bL_law_b1628 {G : GG} {ce sl : Nat} (hce : ce ≤ 600000 ∧ sl ≤ 7302250) (xs : Nat → Int) (lx : Nat) (c0 : Nat) (a1 : Nat) (a2 : Nat) (oa1 : OB L0 a1 11) (oa2 : OB L0 a2 12) {K18 : Int → MM → Option Int} (x3 : Int) (y90 : Int) (a91 : Nat) (x92 : Int) (x93 : Int) (x94 : Int) (x95 : Int) (M : MM)  (hK18 : ∀ (x3 : Int) (M : MM), K18 x3 M = some 1 → VV G xL_law (ZL G c0 lx xs) L0 M ce sl 18 [(0, .ref c0), (1, .ref (gA G a1)), (2, .ref (gA G a2)), (3, .int (eI x3))] []) (oa91 : OB L0 a91 12) (h : sL_law_b1628 xs lx a1 a2 K18 x3 y90 a91 x92 x93 x94 x95 M = some 1) : VV G xL_law (ZL G c0 lx xs) L0 M ce sl 1628 [(0, .ref c0), (1, .ref (gA G a1)), (2, .ref (gA G a2)), (3, .int (eI x3))] [.int (eI x95), .int (eI x94), .int (eI x93), .int (eI x92), .ref (gA G a91), .long (eJ y90)] := by
  unfold sL_law_b1628 at h
  obtain ⟨q_1, hq_1, h⟩ := ob h
  refine r_cVg (pc := 1628) (Y := xX12_peeped) (As := [.int (eI x92), .int (eI x93), .int (eI x94), .int (eI x95)]) (rest := [.long (eJ y90)]) (v := (some (.long (eJ (q_1.1))))) (st1 := [.long (eJ (q_1.1)), .long (eJ y90)]) ck_L_law_142 (kX12_peeped a91 x92 x93 x94 x95 M oa91 hq_1) oa91 rfl rfl rfl rfl (Nat.le_of_ble_eq_true rfl) ⟨rfl, rfl⟩ hce rfl dL_law_1628 ?_
  refine r_lcmp_eq (pc := 1631) (tgt := 1792) dL_law_1631 dL_law_1632 (by decide) rfl rfl (fun c_2 => ?_) (fun c_2 => ?_)
  · replace h := (if_pos c_2).symm.trans h
    refine r_sub (lv' := [(0, .ref c0), (1, .ref (gA G a1)), (2, .ref (gA G a2)), (3, .int (eI x3))]) [0, 1, 2, 3] rfl ?_
    exact bL_law_b1792 hce xs lx c0 a1 a2 oa1 oa2 _ _ hK18 h
  · replace h := (if_neg c_2).symm.trans h
    refine r_iconst (pc := 1635) (v := 0) dL_law_1635 (by decide +kernel) ?_
    cases h
set_option maxHeartbeats 4000000 in
set_option maxRecDepth 100000 in
theorem bL_law_b1596 {G : GG} {ce sl : Nat} (hce : ce ≤ 600000 ∧ sl ≤ 7302250) (xs : Nat → Int) (lx : Nat) (c0 : Nat) (a1 : Nat) (a2 : Nat) (oa1 : OB L0 a1 11) (oa2 : OB L0 a2 12) {K18 : Int → MM → Option Int} (x3 : Int) (a90 : Nat) (x91 : Int) (x92 : Int) (x93 : Int) (x94 : Int) (M : MM)  (hK18 : ∀ (x3 : Int) (M : MM), K18 x3 M = some 1 → VV G xL_law (ZL G c0 lx xs) L0 M ce sl 18 [(0, .ref c0), (1, .ref (gA G a1)), (2, .ref (gA G a2)), (3, .int (eI x3))] []) (oa90 : OB L0 a90 11) (h : sL_law_b1596 xs lx a1 a2 K18 x3 a90 x91 x92 x93 x94 M = some 1) : VV G xL_law (ZL G c0 lx xs) L0 M ce sl 1596 [(0, .ref c0), (1, .ref (gA G a1)), (2, .ref (gA G a2)), (3, .int (eI x3))] [.int (eI x94), .int (eI x93), .int (eI x92), .int (eI x91), .ref (gA G a90)] := by
  unfold sL_law_b1596 at h
  obtain ⟨q_1, hq_1, h⟩ := ob h
  refine r_cVg (pc := 1596) (Y := xX11_peeped) (As := [.int (eI x91), .int (eI x92), .int (eI x93), .int (eI x94)]) (rest := []) (v := (some (.long (eJ q_1)))) (st1 := [.long (eJ q_1)]) ck_L_law_139 (kX11_peeped a90 x91 x92 x93 x94 M oa90 hq_1) oa90 rfl rfl rfl rfl (Nat.le_of_ble_eq_true rfl) ⟨rfl, rfl⟩ hce rfl dL_law_1596 ?_
  refine r_aload_n (pc := 1599) (i := 2) dL_law_1599 rfl 2 rfl ?_
  refine r_aload_n (pc := 1600) (i := 0) dL_law_1600 rfl 0 rfl ?_
  refine r_iload_n (pc := 1601) (i := 3) dL_law_1601 rfl 3 rfl ?_
  refine r_iconst (pc := 1602) (v := 1) dL_law_1602 (by decide +kernel) ?_
  refine r_iadd (pc := 1603) dL_law_1603 ?_
  obtain ⟨c_2, h⟩ := og h
  refine r_xald (pc := 1604) rfl c_2 rfl dL_law_1604 ?_
  refine r_aload_n (pc := 1605) (i := 0) dL_law_1605 rfl 0 rfl ?_
  refine r_iload_n (pc := 1606) (i := 3) dL_law_1606 rfl 3 rfl ?_
  refine r_iconst (pc := 1607) (v := 2) dL_law_1607 (by decide +kernel) ?_
  refine r_iadd (pc := 1608) dL_law_1608 ?_
  obtain ⟨c_3, h⟩ := og h
  refine r_xald (pc := 1609) rfl c_3 rfl dL_law_1609 ?_
  refine r_aload_n (pc := 1610) (i := 0) dL_law_1610 rfl 0 rfl ?_
  refine r_iload_n (pc := 1611) (i := 3) dL_law_1611 rfl 3 rfl ?_
  refine r_iconst (pc := 1612) (v := 3) dL_law_1612 (by decide +kernel) ?_
  refine r_iadd (pc := 1613) dL_law_1613 ?_
  obtain ⟨c_4, h⟩ := og h
  refine r_xald (pc := 1614) rfl c_4 rfl dL_law_1614 ?_
  refine r_aload_n (pc := 1615) (i := 0) dL_law_1615 rfl 0 rfl ?_
  refine r_iload_n (pc := 1616) (i := 3) dL_law_1616 rfl 3 rfl ?_
  refine r_iconst (pc := 1617) (v := 4) dL_law_1617 (by decide +kernel) ?_
  refine r_iadd (pc := 1618) dL_law_1618 ?_
  obtain ⟨c_5, h⟩ := og h
  refine r_xald (pc := 1619) rfl c_5 rfl dL_law_1619 ?_
  refine r_if_eq (pc := 1620) (tgt := 1627) dL_law_1620 (by decide) rfl (fun c_6 => ?_) (fun c_6 => ?_)
  · replace h := (if_pos c_6).symm.trans h
    refine r_iconst (pc := 1627) (v := 0) dL_law_1627 (by decide +kernel) ?_
    refine r_sub (lv' := [(0, .ref c0), (1, .ref (gA G a1)), (2, .ref (gA G a2)), (3, .int (eI x3))]) [0, 1, 2, 3] rfl ?_
    exact bL_law_b1628 hce xs lx c0 a1 a2 oa1 oa2 _ _ _ _ _ _ _ _ hK18 oa2 h
  · replace h := (if_neg c_6).symm.trans h
    refine r_iconst (pc := 1623) (v := 1) dL_law_1623 (by decide +kernel) ?_
    refine r_goto (pc := 1624) (tgt := 1628) dL_law_1624 (by decide) ?_
    refine r_sub (lv' := [(0, .ref c0), (1, .ref (gA G a1)), (2, .ref (gA G a2)), (3, .int (eI x3))]) [0, 1, 2, 3] rfl ?_
    exact bL_law_b1628 hce xs lx c0 a1 a2 oa1 oa2 _ _ _ _ _ _ _ _ hK18 oa2 h
set_option maxHeartbeats 4000000 in
set_option maxRecDepth 100000 in
theorem bL_law_b1559 {G : GG} {ce sl : Nat} (hce : ce ≤ 600000 ∧ sl ≤ 7302250) (xs : Nat → Int) (lx : Nat) (c0 : Nat) (a1 : Nat) (a2 : Nat) (oa1 : OB L0 a1 11) (oa2 : OB L0 a2 12) {K18 : Int → MM → Option Int} (x3 : Int) (x90 : Int) (a91 : Nat) (x92 : Int) (x93 : Int) (x94 : Int) (M : MM)  (hK18 : ∀ (x3 : Int) (M : MM), K18 x3 M = some 1 → VV G xL_law (ZL G c0 lx xs) L0 M ce sl 18 [(0, .ref c0), (1, .ref (gA G a1)), (2, .ref (gA G a2)), (3, .int (eI x3))] []) (oa91 : OB L0 a91 12) (h : sL_law_b1559 xs lx a1 a2 K18 x3 x90 a91 x92 x93 x94 M = some 1) : VV G xL_law (ZL G c0 lx xs) L0 M ce sl 1559 [(0, .ref c0), (1, .ref (gA G a1)), (2, .ref (gA G a2)), (3, .int (eI x3))] [.int (eI x94), .int (eI x93), .int (eI x92), .ref (gA G a91), .int (eI x90)] := by
  unfold sL_law_b1559 at h
  obtain ⟨q_1, hq_1, h⟩ := ob h
  refine r_cVg (pc := 1559) (Y := xX12_trust) (As := [.int (eI x92), .int (eI x93), .int (eI x94)]) (rest := [.int (eI x90)]) (v := (some (.int (eI (q_1.1))))) (st1 := [.int (eI (q_1.1)), .int (eI x90)]) ck_L_law_138 (kX12_trust a91 x92 x93 x94 M oa91 hq_1) oa91 rfl rfl rfl rfl (Nat.le_of_ble_eq_true rfl) ⟨rfl, rfl⟩ hce rfl dL_law_1559 ?_
  refine r_icmp_eq (pc := 1562) (tgt := 1792) dL_law_1562 (by decide) rfl rfl (fun c_2 => ?_) (fun c_2 => ?_)
  · replace h := (if_pos c_2).symm.trans h
    refine r_sub (lv' := [(0, .ref c0), (1, .ref (gA G a1)), (2, .ref (gA G a2)), (3, .int (eI x3))]) [0, 1, 2, 3] rfl ?_
    exact bL_law_b1792 hce xs lx c0 a1 a2 oa1 oa2 _ _ hK18 h
  · replace h := (if_neg c_2).symm.trans h
    refine r_iconst (pc := 1565) (v := 0) dL_law_1565 (by decide +kernel) ?_
    cases h
set_option maxHeartbeats 4000000 in
set_option maxRecDepth 100000 in
theorem bL_law_b1532 {G : GG} {ce sl : Nat} (hce : ce ≤ 600000 ∧ sl ≤ 7302250) (xs : Nat → Int) (lx : Nat) (c0 : Nat) (a1 : Nat) (a2 : Nat) (oa1 : OB L0 a1 11) (oa2 : OB L0 a2 12) {K18 : Int → MM → Option Int} (x3 : Int) (a90 : Nat) (x91 : Int) (x92 : Int) (x93 : Int) (M : MM)  (hK18 : ∀ (x3 : Int) (M : MM), K18 x3 M = some 1 → VV G xL_law (ZL G c0 lx xs) L0 M ce sl 18 [(0, .ref c0), (1, .ref (gA G a1)), (2, .ref (gA G a2)), (3, .int (eI x3))] []) (oa90 : OB L0 a90 11) (h : sL_law_b1532 xs lx a1 a2 K18 x3 a90 x91 x92 x93 M = some 1) : VV G xL_law (ZL G c0 lx xs) L0 M ce sl 1532 [(0, .ref c0), (1, .ref (gA G a1)), (2, .ref (gA G a2)), (3, .int (eI x3))] [.int (eI x93), .int (eI x92), .int (eI x91), .ref (gA G a90)] := by
  unfold sL_law_b1532 at h
  obtain ⟨q_1, hq_1, h⟩ := ob h
  refine r_cVg (pc := 1532) (Y := xX11_trust) (As := [.int (eI x91), .int (eI x92), .int (eI x93)]) (rest := []) (v := (some (.int (eI q_1)))) (st1 := [.int (eI q_1)]) ck_L_law_135 (kX11_trust a90 x91 x92 x93 M oa90 hq_1) oa90 rfl rfl rfl rfl (Nat.le_of_ble_eq_true rfl) ⟨rfl, rfl⟩ hce rfl dL_law_1532 ?_
  refine r_aload_n (pc := 1535) (i := 2) dL_law_1535 rfl 2 rfl ?_
  refine r_aload_n (pc := 1536) (i := 0) dL_law_1536 rfl 0 rfl ?_
  refine r_iload_n (pc := 1537) (i := 3) dL_law_1537 rfl 3 rfl ?_
  refine r_iconst (pc := 1538) (v := 1) dL_law_1538 (by decide +kernel) ?_
  refine r_iadd (pc := 1539) dL_law_1539 ?_
  obtain ⟨c_2, h⟩ := og h
  refine r_xald (pc := 1540) rfl c_2 rfl dL_law_1540 ?_
  refine r_aload_n (pc := 1541) (i := 0) dL_law_1541 rfl 0 rfl ?_
  refine r_iload_n (pc := 1542) (i := 3) dL_law_1542 rfl 3 rfl ?_
  refine r_iconst (pc := 1543) (v := 2) dL_law_1543 (by decide +kernel) ?_
  refine r_iadd (pc := 1544) dL_law_1544 ?_
  obtain ⟨c_3, h⟩ := og h
  refine r_xald (pc := 1545) rfl c_3 rfl dL_law_1545 ?_
  refine r_aload_n (pc := 1546) (i := 0) dL_law_1546 rfl 0 rfl ?_
  refine r_iload_n (pc := 1547) (i := 3) dL_law_1547 rfl 3 rfl ?_
  refine r_iconst (pc := 1548) (v := 3) dL_law_1548 (by decide +kernel) ?_
  refine r_iadd (pc := 1549) dL_law_1549 ?_
  obtain ⟨c_4, h⟩ := og h
  refine r_xald (pc := 1550) rfl c_4 rfl dL_law_1550 ?_
  refine r_if_eq (pc := 1551) (tgt := 1558) dL_law_1551 (by decide) rfl (fun c_5 => ?_) (fun c_5 => ?_)
  · replace h := (if_pos c_5).symm.trans h
    refine r_iconst (pc := 1558) (v := 0) dL_law_1558 (by decide +kernel) ?_
    refine r_sub (lv' := [(0, .ref c0), (1, .ref (gA G a1)), (2, .ref (gA G a2)), (3, .int (eI x3))]) [0, 1, 2, 3] rfl ?_
    exact bL_law_b1559 hce xs lx c0 a1 a2 oa1 oa2 _ _ _ _ _ _ _ hK18 oa2 h
  · replace h := (if_neg c_5).symm.trans h
    refine r_iconst (pc := 1554) (v := 1) dL_law_1554 (by decide +kernel) ?_
    refine r_goto (pc := 1555) (tgt := 1559) dL_law_1555 (by decide) ?_
    refine r_sub (lv' := [(0, .ref c0), (1, .ref (gA G a1)), (2, .ref (gA G a2)), (3, .int (eI x3))]) [0, 1, 2, 3] rfl ?_
    exact bL_law_b1559 hce xs lx c0 a1 a2 oa1 oa2 _ _ _ _ _ _ _ hK18 oa2 h
set_option maxHeartbeats 4000000 in
set_option maxRecDepth 100000 in
theorem bL_law_b1328 {G : GG} {ce sl : Nat} (hce : ce ≤ 600000 ∧ sl ≤ 7302250) (xs : Nat → Int) (lx : Nat) (c0 : Nat) (a1 : Nat) (a2 : Nat) (oa1 : OB L0 a1 11) (oa2 : OB L0 a2 12) {K18 : Int → MM → Option Int} (x3 : Int) (x90 : Int) (a91 : Nat) (x92 : Int) (x93 : Int) (x94 : Int) (M : MM)  (hK18 : ∀ (x3 : Int) (M : MM), K18 x3 M = some 1 → VV G xL_law (ZL G c0 lx xs) L0 M ce sl 18 [(0, .ref c0), (1, .ref (gA G a1)), (2, .ref (gA G a2)), (3, .int (eI x3))] []) (oa91 : OB L0 a91 12) (h : sL_law_b1328 xs lx a1 a2 K18 x3 x90 a91 x92 x93 x94 M = some 1) : VV G xL_law (ZL G c0 lx xs) L0 M ce sl 1328 [(0, .ref c0), (1, .ref (gA G a1)), (2, .ref (gA G a2)), (3, .int (eI x3))] [.int (eI x94), .int (eI x93), .int (eI x92), .ref (gA G a91), .int (eI x90)] := by
  unfold sL_law_b1328 at h
  obtain ⟨q_1, hq_1, h⟩ := ob h
  refine r_cVg (pc := 1328) (Y := xX12_danger) (As := [.int (eI x92), .int (eI x93), .int (eI x94)]) (rest := [.int (eI x90)]) (v := (some (.int (eI (q_1.1))))) (st1 := [.int (eI (q_1.1)), .int (eI x90)]) ck_L_law_118 (kX12_danger a91 x92 x93 x94 M oa91 hq_1) oa91 rfl rfl rfl rfl (Nat.le_of_ble_eq_true rfl) ⟨rfl, rfl⟩ hce rfl dL_law_1328 ?_
  refine r_icmp_eq (pc := 1331) (tgt := 1792) dL_law_1331 (by decide) rfl rfl (fun c_2 => ?_) (fun c_2 => ?_)
  · replace h := (if_pos c_2).symm.trans h
    refine r_sub (lv' := [(0, .ref c0), (1, .ref (gA G a1)), (2, .ref (gA G a2)), (3, .int (eI x3))]) [0, 1, 2, 3] rfl ?_
    exact bL_law_b1792 hce xs lx c0 a1 a2 oa1 oa2 _ _ hK18 h
  · replace h := (if_neg c_2).symm.trans h
    refine r_iconst (pc := 1334) (v := 0) dL_law_1334 (by decide +kernel) ?_
    cases h
set_option maxHeartbeats 4000000 in
set_option maxRecDepth 100000 in
theorem bL_law_b1301 {G : GG} {ce sl : Nat} (hce : ce ≤ 600000 ∧ sl ≤ 7302250) (xs : Nat → Int) (lx : Nat) (c0 : Nat) (a1 : Nat) (a2 : Nat) (oa1 : OB L0 a1 11) (oa2 : OB L0 a2 12) {K18 : Int → MM → Option Int} (x3 : Int) (a90 : Nat) (x91 : Int) (x92 : Int) (x93 : Int) (M : MM)  (hK18 : ∀ (x3 : Int) (M : MM), K18 x3 M = some 1 → VV G xL_law (ZL G c0 lx xs) L0 M ce sl 18 [(0, .ref c0), (1, .ref (gA G a1)), (2, .ref (gA G a2)), (3, .int (eI x3))] []) (oa90 : OB L0 a90 11) (h : sL_law_b1301 xs lx a1 a2 K18 x3 a90 x91 x92 x93 M = some 1) : VV G xL_law (ZL G c0 lx xs) L0 M ce sl 1301 [(0, .ref c0), (1, .ref (gA G a1)), (2, .ref (gA G a2)), (3, .int (eI x3))] [.int (eI x93), .int (eI x92), .int (eI x91), .ref (gA G a90)] := by
  unfold sL_law_b1301 at h
  obtain ⟨q_1, hq_1, h⟩ := ob h
  refine r_cVg (pc := 1301) (Y := xX11_danger) (As := [.int (eI x91), .int (eI x92), .int (eI x93)]) (rest := []) (v := (some (.int (eI q_1)))) (st1 := [.int (eI q_1)]) ck_L_law_115 (kX11_danger a90 x91 x92 x93 M oa90 hq_1) oa90 rfl rfl rfl rfl (Nat.le_of_ble_eq_true rfl) ⟨rfl, rfl⟩ hce rfl dL_law_1301 ?_
  refine r_aload_n (pc := 1304) (i := 2) dL_law_1304 rfl 2 rfl ?_
  refine r_aload_n (pc := 1305) (i := 0) dL_law_1305 rfl 0 rfl ?_
  refine r_iload_n (pc := 1306) (i := 3) dL_law_1306 rfl 3 rfl ?_
  refine r_iconst (pc := 1307) (v := 1) dL_law_1307 (by decide +kernel) ?_
  refine r_iadd (pc := 1308) dL_law_1308 ?_
  obtain ⟨c_2, h⟩ := og h
  refine r_xald (pc := 1309) rfl c_2 rfl dL_law_1309 ?_
  refine r_aload_n (pc := 1310) (i := 0) dL_law_1310 rfl 0 rfl ?_
  refine r_iload_n (pc := 1311) (i := 3) dL_law_1311 rfl 3 rfl ?_
  refine r_iconst (pc := 1312) (v := 2) dL_law_1312 (by decide +kernel) ?_
  refine r_iadd (pc := 1313) dL_law_1313 ?_
  obtain ⟨c_3, h⟩ := og h
  refine r_xald (pc := 1314) rfl c_3 rfl dL_law_1314 ?_
  refine r_aload_n (pc := 1315) (i := 0) dL_law_1315 rfl 0 rfl ?_
  refine r_iload_n (pc := 1316) (i := 3) dL_law_1316 rfl 3 rfl ?_
  refine r_iconst (pc := 1317) (v := 3) dL_law_1317 (by decide +kernel) ?_
  refine r_iadd (pc := 1318) dL_law_1318 ?_
  obtain ⟨c_4, h⟩ := og h
  refine r_xald (pc := 1319) rfl c_4 rfl dL_law_1319 ?_
  refine r_if_eq (pc := 1320) (tgt := 1327) dL_law_1320 (by decide) rfl (fun c_5 => ?_) (fun c_5 => ?_)
  · replace h := (if_pos c_5).symm.trans h
    refine r_iconst (pc := 1327) (v := 0) dL_law_1327 (by decide +kernel) ?_
    refine r_sub (lv' := [(0, .ref c0), (1, .ref (gA G a1)), (2, .ref (gA G a2)), (3, .int (eI x3))]) [0, 1, 2, 3] rfl ?_
    exact bL_law_b1328 hce xs lx c0 a1 a2 oa1 oa2 _ _ _ _ _ _ _ hK18 oa2 h
  · replace h := (if_neg c_5).symm.trans h
    refine r_iconst (pc := 1323) (v := 1) dL_law_1323 (by decide +kernel) ?_
    refine r_goto (pc := 1324) (tgt := 1328) dL_law_1324 (by decide) ?_
    refine r_sub (lv' := [(0, .ref c0), (1, .ref (gA G a1)), (2, .ref (gA G a2)), (3, .int (eI x3))]) [0, 1, 2, 3] rfl ?_
    exact bL_law_b1328 hce xs lx c0 a1 a2 oa1 oa2 _ _ _ _ _ _ _ hK18 oa2 h
set_option maxHeartbeats 4000000 in
set_option maxRecDepth 100000 in
theorem bL_law_b1226 {G : GG} {ce sl : Nat} (hce : ce ≤ 600000 ∧ sl ≤ 7302250) (xs : Nat → Int) (lx : Nat) (c0 : Nat) (a1 : Nat) (a2 : Nat) (oa1 : OB L0 a1 11) (oa2 : OB L0 a2 12) {K18 : Int → MM → Option Int} (x3 : Int) (x90 : Int) (a91 : Nat) (x92 : Int) (x93 : Int) (x94 : Int) (x95 : Int) (M : MM)  (hK18 : ∀ (x3 : Int) (M : MM), K18 x3 M = some 1 → VV G xL_law (ZL G c0 lx xs) L0 M ce sl 18 [(0, .ref c0), (1, .ref (gA G a1)), (2, .ref (gA G a2)), (3, .int (eI x3))] []) (oa91 : OB L0 a91 12) (h : sL_law_b1226 xs lx a1 a2 K18 x3 x90 a91 x92 x93 x94 x95 M = some 1) : VV G xL_law (ZL G c0 lx xs) L0 M ce sl 1226 [(0, .ref c0), (1, .ref (gA G a1)), (2, .ref (gA G a2)), (3, .int (eI x3))] [.int (eI x95), .int (eI x94), .int (eI x93), .int (eI x92), .ref (gA G a91), .int (eI x90)] := by
  unfold sL_law_b1226 at h
  obtain ⟨q_1, hq_1, h⟩ := ob h
  refine r_cVg (pc := 1226) (Y := xX12_share) (As := [.int (eI x92), .int (eI x93), .int (eI x94), .int (eI x95)]) (rest := [.int (eI x90)]) (v := (some (.int (eI (q_1.1))))) (st1 := [.int (eI (q_1.1)), .int (eI x90)]) ck_L_law_110 (kX12_share a91 x92 x93 x94 x95 M oa91 hq_1) oa91 rfl rfl rfl rfl (Nat.le_of_ble_eq_true rfl) ⟨rfl, rfl⟩ hce rfl dL_law_1226 ?_
  refine r_icmp_eq (pc := 1229) (tgt := 1792) dL_law_1229 (by decide) rfl rfl (fun c_2 => ?_) (fun c_2 => ?_)
  · replace h := (if_pos c_2).symm.trans h
    refine r_sub (lv' := [(0, .ref c0), (1, .ref (gA G a1)), (2, .ref (gA G a2)), (3, .int (eI x3))]) [0, 1, 2, 3] rfl ?_
    exact bL_law_b1792 hce xs lx c0 a1 a2 oa1 oa2 _ _ hK18 h
  · replace h := (if_neg c_2).symm.trans h
    refine r_iconst (pc := 1232) (v := 0) dL_law_1232 (by decide +kernel) ?_
    cases h
set_option maxHeartbeats 4000000 in
set_option maxRecDepth 100000 in
theorem bL_law_b1194 {G : GG} {ce sl : Nat} (hce : ce ≤ 600000 ∧ sl ≤ 7302250) (xs : Nat → Int) (lx : Nat) (c0 : Nat) (a1 : Nat) (a2 : Nat) (oa1 : OB L0 a1 11) (oa2 : OB L0 a2 12) {K18 : Int → MM → Option Int} (x3 : Int) (a90 : Nat) (x91 : Int) (x92 : Int) (x93 : Int) (x94 : Int) (M : MM)  (hK18 : ∀ (x3 : Int) (M : MM), K18 x3 M = some 1 → VV G xL_law (ZL G c0 lx xs) L0 M ce sl 18 [(0, .ref c0), (1, .ref (gA G a1)), (2, .ref (gA G a2)), (3, .int (eI x3))] []) (oa90 : OB L0 a90 11) (h : sL_law_b1194 xs lx a1 a2 K18 x3 a90 x91 x92 x93 x94 M = some 1) : VV G xL_law (ZL G c0 lx xs) L0 M ce sl 1194 [(0, .ref c0), (1, .ref (gA G a1)), (2, .ref (gA G a2)), (3, .int (eI x3))] [.int (eI x94), .int (eI x93), .int (eI x92), .int (eI x91), .ref (gA G a90)] := by
  unfold sL_law_b1194 at h
  obtain ⟨q_1, hq_1, h⟩ := ob h
  refine r_cVg (pc := 1194) (Y := xX11_share) (As := [.int (eI x91), .int (eI x92), .int (eI x93), .int (eI x94)]) (rest := []) (v := (some (.int (eI q_1)))) (st1 := [.int (eI q_1)]) ck_L_law_106 (kX11_share a90 x91 x92 x93 x94 M oa90 hq_1) oa90 rfl rfl rfl rfl (Nat.le_of_ble_eq_true rfl) ⟨rfl, rfl⟩ hce rfl dL_law_1194 ?_
  refine r_aload_n (pc := 1197) (i := 2) dL_law_1197 rfl 2 rfl ?_
  refine r_aload_n (pc := 1198) (i := 0) dL_law_1198 rfl 0 rfl ?_
  refine r_iload_n (pc := 1199) (i := 3) dL_law_1199 rfl 3 rfl ?_
  refine r_iconst (pc := 1200) (v := 1) dL_law_1200 (by decide +kernel) ?_
  refine r_iadd (pc := 1201) dL_law_1201 ?_
  obtain ⟨c_2, h⟩ := og h
  refine r_xald (pc := 1202) rfl c_2 rfl dL_law_1202 ?_
  refine r_aload_n (pc := 1203) (i := 0) dL_law_1203 rfl 0 rfl ?_
  refine r_iload_n (pc := 1204) (i := 3) dL_law_1204 rfl 3 rfl ?_
  refine r_iconst (pc := 1205) (v := 2) dL_law_1205 (by decide +kernel) ?_
  refine r_iadd (pc := 1206) dL_law_1206 ?_
  obtain ⟨c_3, h⟩ := og h
  refine r_xald (pc := 1207) rfl c_3 rfl dL_law_1207 ?_
  refine r_aload_n (pc := 1208) (i := 0) dL_law_1208 rfl 0 rfl ?_
  refine r_iload_n (pc := 1209) (i := 3) dL_law_1209 rfl 3 rfl ?_
  refine r_iconst (pc := 1210) (v := 3) dL_law_1210 (by decide +kernel) ?_
  refine r_iadd (pc := 1211) dL_law_1211 ?_
  obtain ⟨c_4, h⟩ := og h
  refine r_xald (pc := 1212) rfl c_4 rfl dL_law_1212 ?_
  refine r_aload_n (pc := 1213) (i := 0) dL_law_1213 rfl 0 rfl ?_
  refine r_iload_n (pc := 1214) (i := 3) dL_law_1214 rfl 3 rfl ?_
  refine r_iconst (pc := 1215) (v := 4) dL_law_1215 (by decide +kernel) ?_
  refine r_iadd (pc := 1216) dL_law_1216 ?_
  obtain ⟨c_5, h⟩ := og h
  refine r_xald (pc := 1217) rfl c_5 rfl dL_law_1217 ?_
  refine r_if_eq (pc := 1218) (tgt := 1225) dL_law_1218 (by decide) rfl (fun c_6 => ?_) (fun c_6 => ?_)
  · replace h := (if_pos c_6).symm.trans h
    refine r_iconst (pc := 1225) (v := 0) dL_law_1225 (by decide +kernel) ?_
    refine r_sub (lv' := [(0, .ref c0), (1, .ref (gA G a1)), (2, .ref (gA G a2)), (3, .int (eI x3))]) [0, 1, 2, 3] rfl ?_
    exact bL_law_b1226 hce xs lx c0 a1 a2 oa1 oa2 _ _ _ _ _ _ _ _ hK18 oa2 h
  · replace h := (if_neg c_6).symm.trans h
    refine r_iconst (pc := 1221) (v := 1) dL_law_1221 (by decide +kernel) ?_
    refine r_goto (pc := 1222) (tgt := 1226) dL_law_1222 (by decide) ?_
    refine r_sub (lv' := [(0, .ref c0), (1, .ref (gA G a1)), (2, .ref (gA G a2)), (3, .int (eI x3))]) [0, 1, 2, 3] rfl ?_
    exact bL_law_b1226 hce xs lx c0 a1 a2 oa1 oa2 _ _ _ _ _ _ _ _ hK18 oa2 h
set_option maxHeartbeats 4000000 in
set_option maxRecDepth 100000 in
theorem bL_law_b1004 {G : GG} {ce sl : Nat} (hce : ce ≤ 600000 ∧ sl ≤ 7302250) (xs : Nat → Int) (lx : Nat) (c0 : Nat) (a1 : Nat) (a2 : Nat) (oa1 : OB L0 a1 11) (oa2 : OB L0 a2 12) {K18 : Int → MM → Option Int} (x3 : Int) (y90 : Int) (a91 : Nat) (x92 : Int) (x93 : Int) (M : MM)  (hK18 : ∀ (x3 : Int) (M : MM), K18 x3 M = some 1 → VV G xL_law (ZL G c0 lx xs) L0 M ce sl 18 [(0, .ref c0), (1, .ref (gA G a1)), (2, .ref (gA G a2)), (3, .int (eI x3))] []) (oa91 : OB L0 a91 12) (h : sL_law_b1004 xs lx a1 a2 K18 x3 y90 a91 x92 x93 M = some 1) : VV G xL_law (ZL G c0 lx xs) L0 M ce sl 1004 [(0, .ref c0), (1, .ref (gA G a1)), (2, .ref (gA G a2)), (3, .int (eI x3))] [.int (eI x93), .int (eI x92), .ref (gA G a91), .long (eJ y90)] := by
  unfold sL_law_b1004 at h
  obtain ⟨q_1, hq_1, h⟩ := ob h
  refine r_cVg (pc := 1004) (Y := xX12_uncle) (As := [.int (eI x92), .int (eI x93)]) (rest := [.long (eJ y90)]) (v := (some (.long (eJ (q_1.1))))) (st1 := [.long (eJ (q_1.1)), .long (eJ y90)]) ck_L_law_89 (kX12_uncle a91 x92 x93 M oa91 hq_1) oa91 rfl rfl rfl rfl (Nat.le_of_ble_eq_true rfl) ⟨rfl, rfl⟩ hce rfl dL_law_1004 ?_
  refine r_lcmp_eq (pc := 1007) (tgt := 1792) dL_law_1007 dL_law_1008 (by decide) rfl rfl (fun c_2 => ?_) (fun c_2 => ?_)
  · replace h := (if_pos c_2).symm.trans h
    refine r_sub (lv' := [(0, .ref c0), (1, .ref (gA G a1)), (2, .ref (gA G a2)), (3, .int (eI x3))]) [0, 1, 2, 3] rfl ?_
    exact bL_law_b1792 hce xs lx c0 a1 a2 oa1 oa2 _ _ hK18 h
  · replace h := (if_neg c_2).symm.trans h
    refine r_iconst (pc := 1011) (v := 0) dL_law_1011 (by decide +kernel) ?_
    cases h
set_option maxHeartbeats 4000000 in
set_option maxRecDepth 100000 in
theorem bL_law_b982 {G : GG} {ce sl : Nat} (hce : ce ≤ 600000 ∧ sl ≤ 7302250) (xs : Nat → Int) (lx : Nat) (c0 : Nat) (a1 : Nat) (a2 : Nat) (oa1 : OB L0 a1 11) (oa2 : OB L0 a2 12) {K18 : Int → MM → Option Int} (x3 : Int) (a90 : Nat) (x91 : Int) (x92 : Int) (M : MM)  (hK18 : ∀ (x3 : Int) (M : MM), K18 x3 M = some 1 → VV G xL_law (ZL G c0 lx xs) L0 M ce sl 18 [(0, .ref c0), (1, .ref (gA G a1)), (2, .ref (gA G a2)), (3, .int (eI x3))] []) (oa90 : OB L0 a90 11) (h : sL_law_b982 xs lx a1 a2 K18 x3 a90 x91 x92 M = some 1) : VV G xL_law (ZL G c0 lx xs) L0 M ce sl 982 [(0, .ref c0), (1, .ref (gA G a1)), (2, .ref (gA G a2)), (3, .int (eI x3))] [.int (eI x92), .int (eI x91), .ref (gA G a90)] := by
  unfold sL_law_b982 at h
  obtain ⟨q_1, hq_1, h⟩ := ob h
  refine r_cVg (pc := 982) (Y := xX11_uncle) (As := [.int (eI x91), .int (eI x92)]) (rest := []) (v := (some (.long (eJ (q_1.1))))) (st1 := [.long (eJ (q_1.1))]) ck_L_law_85 (kX11_uncle a90 x91 x92 M oa90 hq_1) oa90 rfl rfl rfl rfl (Nat.le_of_ble_eq_true rfl) ⟨rfl, rfl⟩ hce rfl dL_law_982 ?_
  refine r_aload_n (pc := 985) (i := 2) dL_law_985 rfl 2 rfl ?_
  refine r_aload_n (pc := 986) (i := 0) dL_law_986 rfl 0 rfl ?_
  refine r_iload_n (pc := 987) (i := 3) dL_law_987 rfl 3 rfl ?_
  refine r_iconst (pc := 988) (v := 1) dL_law_988 (by decide +kernel) ?_
  refine r_iadd (pc := 989) dL_law_989 ?_
  obtain ⟨c_2, h⟩ := og h
  refine r_xald (pc := 990) rfl c_2 rfl dL_law_990 ?_
  refine r_aload_n (pc := 991) (i := 0) dL_law_991 rfl 0 rfl ?_
  refine r_iload_n (pc := 992) (i := 3) dL_law_992 rfl 3 rfl ?_
  refine r_iconst (pc := 993) (v := 2) dL_law_993 (by decide +kernel) ?_
  refine r_iadd (pc := 994) dL_law_994 ?_
  obtain ⟨c_3, h⟩ := og h
  refine r_xald (pc := 995) rfl c_3 rfl dL_law_995 ?_
  refine r_if_eq (pc := 996) (tgt := 1003) dL_law_996 (by decide) rfl (fun c_4 => ?_) (fun c_4 => ?_)
  · replace h := (if_pos c_4).symm.trans h
    refine r_iconst (pc := 1003) (v := 0) dL_law_1003 (by decide +kernel) ?_
    refine r_sub (lv' := [(0, .ref c0), (1, .ref (gA G a1)), (2, .ref (gA G a2)), (3, .int (eI x3))]) [0, 1, 2, 3] rfl ?_
    exact bL_law_b1004 hce xs lx c0 a1 a2 oa1 oa2 _ _ _ _ _ _ hK18 oa2 h
  · replace h := (if_neg c_4).symm.trans h
    refine r_iconst (pc := 999) (v := 1) dL_law_999 (by decide +kernel) ?_
    refine r_goto (pc := 1000) (tgt := 1004) dL_law_1000 (by decide) ?_
    refine r_sub (lv' := [(0, .ref c0), (1, .ref (gA G a1)), (2, .ref (gA G a2)), (3, .int (eI x3))]) [0, 1, 2, 3] rfl ?_
    exact bL_law_b1004 hce xs lx c0 a1 a2 oa1 oa2 _ _ _ _ _ _ hK18 oa2 h
set_option maxHeartbeats 4000000 in
set_option maxRecDepth 100000 in
theorem bL_law_b954 {G : GG} {ce sl : Nat} (hce : ce ≤ 600000 ∧ sl ≤ 7302250) (xs : Nat → Int) (lx : Nat) (c0 : Nat) (a1 : Nat) (a2 : Nat) (oa1 : OB L0 a1 11) (oa2 : OB L0 a2 12) {K18 : Int → MM → Option Int} (x3 : Int) (y90 : Int) (a91 : Nat) (x92 : Int) (x93 : Int) (x94 : Int) (x95 : Int) (x96 : Int) (M : MM)  (hK18 : ∀ (x3 : Int) (M : MM), K18 x3 M = some 1 → VV G xL_law (ZL G c0 lx xs) L0 M ce sl 18 [(0, .ref c0), (1, .ref (gA G a1)), (2, .ref (gA G a2)), (3, .int (eI x3))] []) (oa91 : OB L0 a91 12) (h : sL_law_b954 xs lx a1 a2 K18 x3 y90 a91 x92 x93 x94 x95 x96 M = some 1) : VV G xL_law (ZL G c0 lx xs) L0 M ce sl 954 [(0, .ref c0), (1, .ref (gA G a1)), (2, .ref (gA G a2)), (3, .int (eI x3))] [.int (eI x96), .int (eI x95), .int (eI x94), .int (eI x93), .int (eI x92), .ref (gA G a91), .long (eJ y90)] := by
  unfold sL_law_b954 at h
  obtain ⟨q_1, hq_1, h⟩ := ob h
  refine r_cVg (pc := 954) (Y := xX12_chance) (As := [.int (eI x92), .int (eI x93), .int (eI x94), .int (eI x95), .int (eI x96)]) (rest := [.long (eJ y90)]) (v := (some (.long (eJ (q_1.1))))) (st1 := [.long (eJ (q_1.1)), .long (eJ y90)]) ck_L_law_84 (kX12_chance a91 x92 x93 x94 x95 x96 M oa91 hq_1) oa91 rfl rfl rfl rfl (Nat.le_of_ble_eq_true rfl) ⟨rfl, rfl⟩ hce rfl dL_law_954 ?_
  refine r_lcmp_eq (pc := 957) (tgt := 1792) dL_law_957 dL_law_958 (by decide) rfl rfl (fun c_2 => ?_) (fun c_2 => ?_)
  · replace h := (if_pos c_2).symm.trans h
    refine r_sub (lv' := [(0, .ref c0), (1, .ref (gA G a1)), (2, .ref (gA G a2)), (3, .int (eI x3))]) [0, 1, 2, 3] rfl ?_
    exact bL_law_b1792 hce xs lx c0 a1 a2 oa1 oa2 _ _ hK18 h
  · replace h := (if_neg c_2).symm.trans h
    refine r_iconst (pc := 961) (v := 0) dL_law_961 (by decide +kernel) ?_
    cases h
set_option maxHeartbeats 4000000 in
set_option maxRecDepth 100000 in
theorem bL_law_b917 {G : GG} {ce sl : Nat} (hce : ce ≤ 600000 ∧ sl ≤ 7302250) (xs : Nat → Int) (lx : Nat) (c0 : Nat) (a1 : Nat) (a2 : Nat) (oa1 : OB L0 a1 11) (oa2 : OB L0 a2 12) {K18 : Int → MM → Option Int} (x3 : Int) (a90 : Nat) (x91 : Int) (x92 : Int) (x93 : Int) (x94 : Int) (x95 : Int) (M : MM)  (hK18 : ∀ (x3 : Int) (M : MM), K18 x3 M = some 1 → VV G xL_law (ZL G c0 lx xs) L0 M ce sl 18 [(0, .ref c0), (1, .ref (gA G a1)), (2, .ref (gA G a2)), (3, .int (eI x3))] []) (oa90 : OB L0 a90 11) (h : sL_law_b917 xs lx a1 a2 K18 x3 a90 x91 x92 x93 x94 x95 M = some 1) : VV G xL_law (ZL G c0 lx xs) L0 M ce sl 917 [(0, .ref c0), (1, .ref (gA G a1)), (2, .ref (gA G a2)), (3, .int (eI x3))] [.int (eI x95), .int (eI x94), .int (eI x93), .int (eI x92), .int (eI x91), .ref (gA G a90)] := by
  unfold sL_law_b917 at h
  obtain ⟨q_1, hq_1, h⟩ := ob h
  refine r_cVg (pc := 917) (Y := xX11_chance) (As := [.int (eI x91), .int (eI x92), .int (eI x93), .int (eI x94), .int (eI x95)]) (rest := []) (v := (some (.long (eJ (q_1.1))))) (st1 := [.long (eJ (q_1.1))]) ck_L_law_80 (kX11_chance a90 x91 x92 x93 x94 x95 M oa90 hq_1) oa90 rfl rfl rfl rfl (Nat.le_of_ble_eq_true rfl) ⟨rfl, rfl⟩ hce rfl dL_law_917 ?_
  refine r_aload_n (pc := 920) (i := 2) dL_law_920 rfl 2 rfl ?_
  refine r_aload_n (pc := 921) (i := 0) dL_law_921 rfl 0 rfl ?_
  refine r_iload_n (pc := 922) (i := 3) dL_law_922 rfl 3 rfl ?_
  refine r_iconst (pc := 923) (v := 1) dL_law_923 (by decide +kernel) ?_
  refine r_iadd (pc := 924) dL_law_924 ?_
  obtain ⟨c_2, h⟩ := og h
  refine r_xald (pc := 925) rfl c_2 rfl dL_law_925 ?_
  refine r_aload_n (pc := 926) (i := 0) dL_law_926 rfl 0 rfl ?_
  refine r_iload_n (pc := 927) (i := 3) dL_law_927 rfl 3 rfl ?_
  refine r_iconst (pc := 928) (v := 2) dL_law_928 (by decide +kernel) ?_
  refine r_iadd (pc := 929) dL_law_929 ?_
  obtain ⟨c_3, h⟩ := og h
  refine r_xald (pc := 930) rfl c_3 rfl dL_law_930 ?_
  refine r_aload_n (pc := 931) (i := 0) dL_law_931 rfl 0 rfl ?_
  refine r_iload_n (pc := 932) (i := 3) dL_law_932 rfl 3 rfl ?_
  refine r_iconst (pc := 933) (v := 3) dL_law_933 (by decide +kernel) ?_
  refine r_iadd (pc := 934) dL_law_934 ?_
  obtain ⟨c_4, h⟩ := og h
  refine r_xald (pc := 935) rfl c_4 rfl dL_law_935 ?_
  refine r_aload_n (pc := 936) (i := 0) dL_law_936 rfl 0 rfl ?_
  refine r_iload_n (pc := 937) (i := 3) dL_law_937 rfl 3 rfl ?_
  refine r_iconst (pc := 938) (v := 4) dL_law_938 (by decide +kernel) ?_
  refine r_iadd (pc := 939) dL_law_939 ?_
  obtain ⟨c_5, h⟩ := og h
  refine r_xald (pc := 940) rfl c_5 rfl dL_law_940 ?_
  refine r_aload_n (pc := 941) (i := 0) dL_law_941 rfl 0 rfl ?_
  refine r_iload_n (pc := 942) (i := 3) dL_law_942 rfl 3 rfl ?_
  refine r_iconst (pc := 943) (v := 5) dL_law_943 (by decide +kernel) ?_
  refine r_iadd (pc := 944) dL_law_944 ?_
  obtain ⟨c_6, h⟩ := og h
  refine r_xald (pc := 945) rfl c_6 rfl dL_law_945 ?_
  refine r_if_eq (pc := 946) (tgt := 953) dL_law_946 (by decide) rfl (fun c_7 => ?_) (fun c_7 => ?_)
  · replace h := (if_pos c_7).symm.trans h
    refine r_iconst (pc := 953) (v := 0) dL_law_953 (by decide +kernel) ?_
    refine r_sub (lv' := [(0, .ref c0), (1, .ref (gA G a1)), (2, .ref (gA G a2)), (3, .int (eI x3))]) [0, 1, 2, 3] rfl ?_
    exact bL_law_b954 hce xs lx c0 a1 a2 oa1 oa2 _ _ _ _ _ _ _ _ _ hK18 oa2 h
  · replace h := (if_neg c_7).symm.trans h
    refine r_iconst (pc := 949) (v := 1) dL_law_949 (by decide +kernel) ?_
    refine r_goto (pc := 950) (tgt := 954) dL_law_950 (by decide) ?_
    refine r_sub (lv' := [(0, .ref c0), (1, .ref (gA G a1)), (2, .ref (gA G a2)), (3, .int (eI x3))]) [0, 1, 2, 3] rfl ?_
    exact bL_law_b954 hce xs lx c0 a1 a2 oa1 oa2 _ _ _ _ _ _ _ _ _ hK18 oa2 h
set_option maxHeartbeats 4000000 in
set_option maxRecDepth 100000 in
theorem bL_law_b874 {G : GG} {ce sl : Nat} (hce : ce ≤ 600000 ∧ sl ≤ 7302250) (xs : Nat → Int) (lx : Nat) (c0 : Nat) (a1 : Nat) (a2 : Nat) (oa1 : OB L0 a1 11) (oa2 : OB L0 a2 12) {K18 : Int → MM → Option Int} (x3 : Int) (y90 : Int) (a91 : Nat) (x92 : Int) (x93 : Int) (x94 : Int) (x95 : Int) (M : MM)  (hK18 : ∀ (x3 : Int) (M : MM), K18 x3 M = some 1 → VV G xL_law (ZL G c0 lx xs) L0 M ce sl 18 [(0, .ref c0), (1, .ref (gA G a1)), (2, .ref (gA G a2)), (3, .int (eI x3))] []) (oa91 : OB L0 a91 12) (h : sL_law_b874 xs lx a1 a2 K18 x3 y90 a91 x92 x93 x94 x95 M = some 1) : VV G xL_law (ZL G c0 lx xs) L0 M ce sl 874 [(0, .ref c0), (1, .ref (gA G a1)), (2, .ref (gA G a2)), (3, .int (eI x3))] [.int (eI x95), .int (eI x94), .int (eI x93), .int (eI x92), .ref (gA G a91), .long (eJ y90)] := by
  unfold sL_law_b874 at h
  obtain ⟨q_1, hq_1, h⟩ := ob h
  refine r_cVg (pc := 874) (Y := xX12_luck) (As := [.int (eI x92), .int (eI x93), .int (eI x94), .int (eI x95)]) (rest := [.long (eJ y90)]) (v := (some (.long (eJ (q_1.1))))) (st1 := [.long (eJ (q_1.1)), .long (eJ y90)]) ck_L_law_79 (kX12_luck a91 x92 x93 x94 x95 M oa91 hq_1) oa91 rfl rfl rfl rfl (Nat.le_of_ble_eq_true rfl) ⟨rfl, rfl⟩ hce rfl dL_law_874 ?_
  refine r_lcmp_eq (pc := 877) (tgt := 1792) dL_law_877 dL_law_878 (by decide) rfl rfl (fun c_2 => ?_) (fun c_2 => ?_)
  · replace h := (if_pos c_2).symm.trans h
    refine r_sub (lv' := [(0, .ref c0), (1, .ref (gA G a1)), (2, .ref (gA G a2)), (3, .int (eI x3))]) [0, 1, 2, 3] rfl ?_
    exact bL_law_b1792 hce xs lx c0 a1 a2 oa1 oa2 _ _ hK18 h
  · replace h := (if_neg c_2).symm.trans h
    refine r_iconst (pc := 881) (v := 0) dL_law_881 (by decide +kernel) ?_
    cases h
set_option maxHeartbeats 4000000 in
set_option maxRecDepth 100000 in
theorem bL_law_b842 {G : GG} {ce sl : Nat} (hce : ce ≤ 600000 ∧ sl ≤ 7302250) (xs : Nat → Int) (lx : Nat) (c0 : Nat) (a1 : Nat) (a2 : Nat) (oa1 : OB L0 a1 11) (oa2 : OB L0 a2 12) {K18 : Int → MM → Option Int} (x3 : Int) (a90 : Nat) (x91 : Int) (x92 : Int) (x93 : Int) (x94 : Int) (M : MM)  (hK18 : ∀ (x3 : Int) (M : MM), K18 x3 M = some 1 → VV G xL_law (ZL G c0 lx xs) L0 M ce sl 18 [(0, .ref c0), (1, .ref (gA G a1)), (2, .ref (gA G a2)), (3, .int (eI x3))] []) (oa90 : OB L0 a90 11) (h : sL_law_b842 xs lx a1 a2 K18 x3 a90 x91 x92 x93 x94 M = some 1) : VV G xL_law (ZL G c0 lx xs) L0 M ce sl 842 [(0, .ref c0), (1, .ref (gA G a1)), (2, .ref (gA G a2)), (3, .int (eI x3))] [.int (eI x94), .int (eI x93), .int (eI x92), .int (eI x91), .ref (gA G a90)] := by
  unfold sL_law_b842 at h
  obtain ⟨q_1, hq_1, h⟩ := ob h
  refine r_cVg (pc := 842) (Y := xX11_luck) (As := [.int (eI x91), .int (eI x92), .int (eI x93), .int (eI x94)]) (rest := []) (v := (some (.long (eJ (q_1.1))))) (st1 := [.long (eJ (q_1.1))]) ck_L_law_76 (kX11_luck a90 x91 x92 x93 x94 M oa90 hq_1) oa90 rfl rfl rfl rfl (Nat.le_of_ble_eq_true rfl) ⟨rfl, rfl⟩ hce rfl dL_law_842 ?_
  refine r_aload_n (pc := 845) (i := 2) dL_law_845 rfl 2 rfl ?_
  refine r_aload_n (pc := 846) (i := 0) dL_law_846 rfl 0 rfl ?_
  refine r_iload_n (pc := 847) (i := 3) dL_law_847 rfl 3 rfl ?_
  refine r_iconst (pc := 848) (v := 1) dL_law_848 (by decide +kernel) ?_
  refine r_iadd (pc := 849) dL_law_849 ?_
  obtain ⟨c_2, h⟩ := og h
  refine r_xald (pc := 850) rfl c_2 rfl dL_law_850 ?_
  refine r_aload_n (pc := 851) (i := 0) dL_law_851 rfl 0 rfl ?_
  refine r_iload_n (pc := 852) (i := 3) dL_law_852 rfl 3 rfl ?_
  refine r_iconst (pc := 853) (v := 2) dL_law_853 (by decide +kernel) ?_
  refine r_iadd (pc := 854) dL_law_854 ?_
  obtain ⟨c_3, h⟩ := og h
  refine r_xald (pc := 855) rfl c_3 rfl dL_law_855 ?_
  refine r_aload_n (pc := 856) (i := 0) dL_law_856 rfl 0 rfl ?_
  refine r_iload_n (pc := 857) (i := 3) dL_law_857 rfl 3 rfl ?_
  refine r_iconst (pc := 858) (v := 3) dL_law_858 (by decide +kernel) ?_
  refine r_iadd (pc := 859) dL_law_859 ?_
  obtain ⟨c_4, h⟩ := og h
  refine r_xald (pc := 860) rfl c_4 rfl dL_law_860 ?_
  refine r_aload_n (pc := 861) (i := 0) dL_law_861 rfl 0 rfl ?_
  refine r_iload_n (pc := 862) (i := 3) dL_law_862 rfl 3 rfl ?_
  refine r_iconst (pc := 863) (v := 4) dL_law_863 (by decide +kernel) ?_
  refine r_iadd (pc := 864) dL_law_864 ?_
  obtain ⟨c_5, h⟩ := og h
  refine r_xald (pc := 865) rfl c_5 rfl dL_law_865 ?_
  refine r_if_eq (pc := 866) (tgt := 873) dL_law_866 (by decide) rfl (fun c_6 => ?_) (fun c_6 => ?_)
  · replace h := (if_pos c_6).symm.trans h
    refine r_iconst (pc := 873) (v := 0) dL_law_873 (by decide +kernel) ?_
    refine r_sub (lv' := [(0, .ref c0), (1, .ref (gA G a1)), (2, .ref (gA G a2)), (3, .int (eI x3))]) [0, 1, 2, 3] rfl ?_
    exact bL_law_b874 hce xs lx c0 a1 a2 oa1 oa2 _ _ _ _ _ _ _ _ hK18 oa2 h
  · replace h := (if_neg c_6).symm.trans h
    refine r_iconst (pc := 869) (v := 1) dL_law_869 (by decide +kernel) ?_
    refine r_goto (pc := 870) (tgt := 874) dL_law_870 (by decide) ?_
    refine r_sub (lv' := [(0, .ref c0), (1, .ref (gA G a1)), (2, .ref (gA G a2)), (3, .int (eI x3))]) [0, 1, 2, 3] rfl ?_
    exact bL_law_b874 hce xs lx c0 a1 a2 oa1 oa2 _ _ _ _ _ _ _ _ hK18 oa2 h
set_option maxHeartbeats 4000000 in
set_option maxRecDepth 100000 in
theorem bL_law_b761 {G : GG} {ce sl : Nat} (hce : ce ≤ 600000 ∧ sl ≤ 7302250) (xs : Nat → Int) (lx : Nat) (c0 : Nat) (a1 : Nat) (a2 : Nat) (oa1 : OB L0 a1 11) (oa2 : OB L0 a2 12) {K18 : Int → MM → Option Int} (x3 : Int) (y90 : Int) (a91 : Nat) (x92 : Int) (x93 : Int) (x94 : Int) (x95 : Int) (M : MM)  (hK18 : ∀ (x3 : Int) (M : MM), K18 x3 M = some 1 → VV G xL_law (ZL G c0 lx xs) L0 M ce sl 18 [(0, .ref c0), (1, .ref (gA G a1)), (2, .ref (gA G a2)), (3, .int (eI x3))] []) (oa91 : OB L0 a91 12) (h : sL_law_b761 xs lx a1 a2 K18 x3 y90 a91 x92 x93 x94 x95 M = some 1) : VV G xL_law (ZL G c0 lx xs) L0 M ce sl 761 [(0, .ref c0), (1, .ref (gA G a1)), (2, .ref (gA G a2)), (3, .int (eI x3))] [.int (eI x95), .int (eI x94), .int (eI x93), .int (eI x92), .ref (gA G a91), .long (eJ y90)] := by
  unfold sL_law_b761 at h
  obtain ⟨q_1, hq_1, h⟩ := ob h
  refine r_cVg (pc := 761) (Y := xX12_hangs) (As := [.int (eI x92), .int (eI x93), .int (eI x94), .int (eI x95)]) (rest := [.long (eJ y90)]) (v := (some (.long (eJ (q_1.1))))) (st1 := [.long (eJ (q_1.1)), .long (eJ y90)]) ck_L_law_71 (kX12_hangs a91 x92 x93 x94 x95 M oa91 hq_1) oa91 rfl rfl rfl rfl (Nat.le_of_ble_eq_true rfl) ⟨rfl, rfl⟩ hce rfl dL_law_761 ?_
  refine r_lcmp_eq (pc := 764) (tgt := 1792) dL_law_764 dL_law_765 (by decide) rfl rfl (fun c_2 => ?_) (fun c_2 => ?_)
  · replace h := (if_pos c_2).symm.trans h
    refine r_sub (lv' := [(0, .ref c0), (1, .ref (gA G a1)), (2, .ref (gA G a2)), (3, .int (eI x3))]) [0, 1, 2, 3] rfl ?_
    exact bL_law_b1792 hce xs lx c0 a1 a2 oa1 oa2 _ _ hK18 h
  · replace h := (if_neg c_2).symm.trans h
    refine r_iconst (pc := 768) (v := 0) dL_law_768 (by decide +kernel) ?_
    cases h
set_option maxHeartbeats 4000000 in
set_option maxRecDepth 100000 in
theorem bL_law_b729 {G : GG} {ce sl : Nat} (hce : ce ≤ 600000 ∧ sl ≤ 7302250) (xs : Nat → Int) (lx : Nat) (c0 : Nat) (a1 : Nat) (a2 : Nat) (oa1 : OB L0 a1 11) (oa2 : OB L0 a2 12) {K18 : Int → MM → Option Int} (x3 : Int) (a90 : Nat) (x91 : Int) (x92 : Int) (x93 : Int) (x94 : Int) (M : MM)  (hK18 : ∀ (x3 : Int) (M : MM), K18 x3 M = some 1 → VV G xL_law (ZL G c0 lx xs) L0 M ce sl 18 [(0, .ref c0), (1, .ref (gA G a1)), (2, .ref (gA G a2)), (3, .int (eI x3))] []) (oa90 : OB L0 a90 11) (h : sL_law_b729 xs lx a1 a2 K18 x3 a90 x91 x92 x93 x94 M = some 1) : VV G xL_law (ZL G c0 lx xs) L0 M ce sl 729 [(0, .ref c0), (1, .ref (gA G a1)), (2, .ref (gA G a2)), (3, .int (eI x3))] [.int (eI x94), .int (eI x93), .int (eI x92), .int (eI x91), .ref (gA G a90)] := by
  unfold sL_law_b729 at h
  obtain ⟨q_1, hq_1, h⟩ := ob h
  refine r_cVg (pc := 729) (Y := xX11_hangs) (As := [.int (eI x91), .int (eI x92), .int (eI x93), .int (eI x94)]) (rest := []) (v := (some (.long (eJ (q_1.1))))) (st1 := [.long (eJ (q_1.1))]) ck_L_law_67 (kX11_hangs a90 x91 x92 x93 x94 M oa90 hq_1) oa90 rfl rfl rfl rfl (Nat.le_of_ble_eq_true rfl) ⟨rfl, rfl⟩ hce rfl dL_law_729 ?_
  refine r_aload_n (pc := 732) (i := 2) dL_law_732 rfl 2 rfl ?_
  refine r_aload_n (pc := 733) (i := 0) dL_law_733 rfl 0 rfl ?_
  refine r_iload_n (pc := 734) (i := 3) dL_law_734 rfl 3 rfl ?_
  refine r_iconst (pc := 735) (v := 1) dL_law_735 (by decide +kernel) ?_
  refine r_iadd (pc := 736) dL_law_736 ?_
  obtain ⟨c_2, h⟩ := og h
  refine r_xald (pc := 737) rfl c_2 rfl dL_law_737 ?_
  refine r_aload_n (pc := 738) (i := 0) dL_law_738 rfl 0 rfl ?_
  refine r_iload_n (pc := 739) (i := 3) dL_law_739 rfl 3 rfl ?_
  refine r_iconst (pc := 740) (v := 2) dL_law_740 (by decide +kernel) ?_
  refine r_iadd (pc := 741) dL_law_741 ?_
  obtain ⟨c_3, h⟩ := og h
  refine r_xald (pc := 742) rfl c_3 rfl dL_law_742 ?_
  refine r_aload_n (pc := 743) (i := 0) dL_law_743 rfl 0 rfl ?_
  refine r_iload_n (pc := 744) (i := 3) dL_law_744 rfl 3 rfl ?_
  refine r_iconst (pc := 745) (v := 3) dL_law_745 (by decide +kernel) ?_
  refine r_iadd (pc := 746) dL_law_746 ?_
  obtain ⟨c_4, h⟩ := og h
  refine r_xald (pc := 747) rfl c_4 rfl dL_law_747 ?_
  refine r_aload_n (pc := 748) (i := 0) dL_law_748 rfl 0 rfl ?_
  refine r_iload_n (pc := 749) (i := 3) dL_law_749 rfl 3 rfl ?_
  refine r_iconst (pc := 750) (v := 4) dL_law_750 (by decide +kernel) ?_
  refine r_iadd (pc := 751) dL_law_751 ?_
  obtain ⟨c_5, h⟩ := og h
  refine r_xald (pc := 752) rfl c_5 rfl dL_law_752 ?_
  refine r_if_eq (pc := 753) (tgt := 760) dL_law_753 (by decide) rfl (fun c_6 => ?_) (fun c_6 => ?_)
  · replace h := (if_pos c_6).symm.trans h
    refine r_iconst (pc := 760) (v := 0) dL_law_760 (by decide +kernel) ?_
    refine r_sub (lv' := [(0, .ref c0), (1, .ref (gA G a1)), (2, .ref (gA G a2)), (3, .int (eI x3))]) [0, 1, 2, 3] rfl ?_
    exact bL_law_b761 hce xs lx c0 a1 a2 oa1 oa2 _ _ _ _ _ _ _ _ hK18 oa2 h
  · replace h := (if_neg c_6).symm.trans h
    refine r_iconst (pc := 756) (v := 1) dL_law_756 (by decide +kernel) ?_
    refine r_goto (pc := 757) (tgt := 761) dL_law_757 (by decide) ?_
    refine r_sub (lv' := [(0, .ref c0), (1, .ref (gA G a1)), (2, .ref (gA G a2)), (3, .int (eI x3))]) [0, 1, 2, 3] rfl ?_
    exact bL_law_b761 hce xs lx c0 a1 a2 oa1 oa2 _ _ _ _ _ _ _ _ hK18 oa2 h
set_option maxHeartbeats 4000000 in
set_option maxRecDepth 100000 in
theorem bL_law_b649 {G : GG} {ce sl : Nat} (hce : ce ≤ 600000 ∧ sl ≤ 7302250) (xs : Nat → Int) (lx : Nat) (c0 : Nat) (a1 : Nat) (a2 : Nat) (oa1 : OB L0 a1 11) (oa2 : OB L0 a2 12) {K18 : Int → MM → Option Int} (x3 : Int) (x90 : Int) (a91 : Nat) (x92 : Int) (x93 : Int) (x94 : Int) (M : MM)  (hK18 : ∀ (x3 : Int) (M : MM), K18 x3 M = some 1 → VV G xL_law (ZL G c0 lx xs) L0 M ce sl 18 [(0, .ref c0), (1, .ref (gA G a1)), (2, .ref (gA G a2)), (3, .int (eI x3))] []) (oa91 : OB L0 a91 12) (h : sL_law_b649 xs lx a1 a2 K18 x3 x90 a91 x92 x93 x94 M = some 1) : VV G xL_law (ZL G c0 lx xs) L0 M ce sl 649 [(0, .ref c0), (1, .ref (gA G a1)), (2, .ref (gA G a2)), (3, .int (eI x3))] [.int (eI x94), .int (eI x93), .int (eI x92), .ref (gA G a91), .int (eI x90)] := by
  unfold sL_law_b649 at h
  obtain ⟨q_1, hq_1, h⟩ := ob h
  refine r_cVg (pc := 649) (Y := xX12_span) (As := [.int (eI x92), .int (eI x93), .int (eI x94)]) (rest := [.int (eI x90)]) (v := (some (.int (eI (q_1.1))))) (st1 := [.int (eI (q_1.1)), .int (eI x90)]) ck_L_law_62 (kX12_span a91 x92 x93 x94 M oa91 hq_1) oa91 rfl rfl rfl rfl (Nat.le_of_ble_eq_true rfl) ⟨rfl, rfl⟩ hce rfl dL_law_649 ?_
  refine r_icmp_eq (pc := 652) (tgt := 1792) dL_law_652 (by decide) rfl rfl (fun c_2 => ?_) (fun c_2 => ?_)
  · replace h := (if_pos c_2).symm.trans h
    refine r_sub (lv' := [(0, .ref c0), (1, .ref (gA G a1)), (2, .ref (gA G a2)), (3, .int (eI x3))]) [0, 1, 2, 3] rfl ?_
    exact bL_law_b1792 hce xs lx c0 a1 a2 oa1 oa2 _ _ hK18 h
  · replace h := (if_neg c_2).symm.trans h
    refine r_iconst (pc := 655) (v := 0) dL_law_655 (by decide +kernel) ?_
    cases h
set_option maxHeartbeats 4000000 in
set_option maxRecDepth 100000 in
theorem bL_law_b622 {G : GG} {ce sl : Nat} (hce : ce ≤ 600000 ∧ sl ≤ 7302250) (xs : Nat → Int) (lx : Nat) (c0 : Nat) (a1 : Nat) (a2 : Nat) (oa1 : OB L0 a1 11) (oa2 : OB L0 a2 12) {K18 : Int → MM → Option Int} (x3 : Int) (a90 : Nat) (x91 : Int) (x92 : Int) (x93 : Int) (M : MM)  (hK18 : ∀ (x3 : Int) (M : MM), K18 x3 M = some 1 → VV G xL_law (ZL G c0 lx xs) L0 M ce sl 18 [(0, .ref c0), (1, .ref (gA G a1)), (2, .ref (gA G a2)), (3, .int (eI x3))] []) (oa90 : OB L0 a90 11) (h : sL_law_b622 xs lx a1 a2 K18 x3 a90 x91 x92 x93 M = some 1) : VV G xL_law (ZL G c0 lx xs) L0 M ce sl 622 [(0, .ref c0), (1, .ref (gA G a1)), (2, .ref (gA G a2)), (3, .int (eI x3))] [.int (eI x93), .int (eI x92), .int (eI x91), .ref (gA G a90)] := by
  unfold sL_law_b622 at h
  obtain ⟨q_1, hq_1, h⟩ := ob h
  refine r_cVg (pc := 622) (Y := xX11_span) (As := [.int (eI x91), .int (eI x92), .int (eI x93)]) (rest := []) (v := (some (.int (eI (q_1.1))))) (st1 := [.int (eI (q_1.1))]) ck_L_law_58 (kX11_span a90 x91 x92 x93 M oa90 hq_1) oa90 rfl rfl rfl rfl (Nat.le_of_ble_eq_true rfl) ⟨rfl, rfl⟩ hce rfl dL_law_622 ?_
  refine r_aload_n (pc := 625) (i := 2) dL_law_625 rfl 2 rfl ?_
  refine r_aload_n (pc := 626) (i := 0) dL_law_626 rfl 0 rfl ?_
  refine r_iload_n (pc := 627) (i := 3) dL_law_627 rfl 3 rfl ?_
  refine r_iconst (pc := 628) (v := 1) dL_law_628 (by decide +kernel) ?_
  refine r_iadd (pc := 629) dL_law_629 ?_
  obtain ⟨c_2, h⟩ := og h
  refine r_xald (pc := 630) rfl c_2 rfl dL_law_630 ?_
  refine r_aload_n (pc := 631) (i := 0) dL_law_631 rfl 0 rfl ?_
  refine r_iload_n (pc := 632) (i := 3) dL_law_632 rfl 3 rfl ?_
  refine r_iconst (pc := 633) (v := 2) dL_law_633 (by decide +kernel) ?_
  refine r_iadd (pc := 634) dL_law_634 ?_
  obtain ⟨c_3, h⟩ := og h
  refine r_xald (pc := 635) rfl c_3 rfl dL_law_635 ?_
  refine r_aload_n (pc := 636) (i := 0) dL_law_636 rfl 0 rfl ?_
  refine r_iload_n (pc := 637) (i := 3) dL_law_637 rfl 3 rfl ?_
  refine r_iconst (pc := 638) (v := 3) dL_law_638 (by decide +kernel) ?_
  refine r_iadd (pc := 639) dL_law_639 ?_
  obtain ⟨c_4, h⟩ := og h
  refine r_xald (pc := 640) rfl c_4 rfl dL_law_640 ?_
  refine r_if_eq (pc := 641) (tgt := 648) dL_law_641 (by decide) rfl (fun c_5 => ?_) (fun c_5 => ?_)
  · replace h := (if_pos c_5).symm.trans h
    refine r_iconst (pc := 648) (v := 0) dL_law_648 (by decide +kernel) ?_
    refine r_sub (lv' := [(0, .ref c0), (1, .ref (gA G a1)), (2, .ref (gA G a2)), (3, .int (eI x3))]) [0, 1, 2, 3] rfl ?_
    exact bL_law_b649 hce xs lx c0 a1 a2 oa1 oa2 _ _ _ _ _ _ _ hK18 oa2 h
  · replace h := (if_neg c_5).symm.trans h
    refine r_iconst (pc := 644) (v := 1) dL_law_644 (by decide +kernel) ?_
    refine r_goto (pc := 645) (tgt := 649) dL_law_645 (by decide) ?_
    refine r_sub (lv' := [(0, .ref c0), (1, .ref (gA G a1)), (2, .ref (gA G a2)), (3, .int (eI x3))]) [0, 1, 2, 3] rfl ?_
    exact bL_law_b649 hce xs lx c0 a1 a2 oa1 oa2 _ _ _ _ _ _ _ hK18 oa2 h
set_option maxHeartbeats 4000000 in
set_option maxRecDepth 100000 in
theorem bL_law_b18 {G : GG} {ce sl : Nat} (hce : ce ≤ 600000 ∧ sl ≤ 7302250) (xs : Nat → Int) (lx : Nat) (c0 : Nat) (a1 : Nat) (a2 : Nat) (oa1 : OB L0 a1 11) (oa2 : OB L0 a2 12)  : ∀ (n : Nat) (x3 : Int) (M : MM)  (h : sL_law_b18 xs lx a1 a2 n x3 M = some 1), VV G xL_law (ZL G c0 lx xs) L0 M ce sl 18 [(0, .ref c0), (1, .ref (gA G a1)), (2, .ref (gA G a2)), (3, .int (eI x3))] [] := by
  intro n
  induction n with
  | zero =>
    intro x3 M h
    rw [sL_law_b18] at h
    cases h
  | succ n ih =>
    intro x3 M h
    rw [sL_law_b18] at h
    refine r_iload_n (pc := 18) (i := 3) dL_law_18 rfl 3 rfl ?_
    refine r_aload_n (pc := 19) (i := 0) dL_law_19 rfl 0 rfl ?_
    refine r_xlen (pc := 20) dL_law_20 ?_
    refine r_bipush (pc := 21) (v := 6) dL_law_21 (by decide +kernel) ?_
    refine r_isub (pc := 23) dL_law_23 ?_
    refine r_icmp_gt (pc := 24) (tgt := 1798) dL_law_24 (by decide) rfl rfl (fun c_1 => ?_) (fun c_1 => ?_)
    · replace h := (if_pos c_1).symm.trans h
      refine r_iconst (pc := 1798) (v := 1) dL_law_1798 (by decide +kernel) ?_
      exact r_lawret (pc := 1799) hce rfl rfl dL_law_1799
    · replace h := (if_neg c_1).symm.trans h
      refine r_aload_n (pc := 27) (i := 0) dL_law_27 rfl 0 rfl ?_
      refine r_iload_n (pc := 28) (i := 3) dL_law_28 rfl 3 rfl ?_
      obtain ⟨c_2, h⟩ := og h
      refine r_xald (pc := 29) rfl c_2 rfl dL_law_29 ?_
      refine r_bipush (pc := 30) (v := 63) dL_law_30 (by decide +kernel) ?_
      refine r_iand (pc := 32) (m' := 64) 6 (by decide) wl_63 rfl dL_law_32 ?_
      by_cases c_3 : wI ((xs (wI x3).toNat) % 64) = 0
      · replace h := (if_pos c_3).symm.trans h
        refine r_tsw (pc := 33) (tgt := 188) (k' := 0) (rfl.trans c_3) dL_law_33 (by decide) rfl (by decide) ?_
        refine r_aload_n (pc := 188) (i := 1) dL_law_188 rfl 1 rfl ?_
        refine r_aload_n (pc := 189) (i := 0) dL_law_189 rfl 0 rfl ?_
        refine r_iload_n (pc := 190) (i := 3) dL_law_190 rfl 3 rfl ?_
        refine r_iconst (pc := 191) (v := 1) dL_law_191 (by decide +kernel) ?_
        refine r_iadd (pc := 192) dL_law_192 ?_
        obtain ⟨c_4, h⟩ := og h
        refine r_xald (pc := 193) rfl c_4 rfl dL_law_193 ?_
        refine r_aload_n (pc := 194) (i := 0) dL_law_194 rfl 0 rfl ?_
        refine r_iload_n (pc := 195) (i := 3) dL_law_195 rfl 3 rfl ?_
        refine r_iconst (pc := 196) (v := 2) dL_law_196 (by decide +kernel) ?_
        refine r_iadd (pc := 197) dL_law_197 ?_
        obtain ⟨c_5, h⟩ := og h
        refine r_xald (pc := 198) rfl c_5 rfl dL_law_198 ?_
        refine r_aload_n (pc := 199) (i := 0) dL_law_199 rfl 0 rfl ?_
        refine r_iload_n (pc := 200) (i := 3) dL_law_200 rfl 3 rfl ?_
        refine r_iconst (pc := 201) (v := 3) dL_law_201 (by decide +kernel) ?_
        refine r_iadd (pc := 202) dL_law_202 ?_
        obtain ⟨c_6, h⟩ := og h
        refine r_xald (pc := 203) rfl c_6 rfl dL_law_203 ?_
        refine r_aload_n (pc := 204) (i := 0) dL_law_204 rfl 0 rfl ?_
        refine r_iload_n (pc := 205) (i := 3) dL_law_205 rfl 3 rfl ?_
        refine r_iconst (pc := 206) (v := 4) dL_law_206 (by decide +kernel) ?_
        refine r_iadd (pc := 207) dL_law_207 ?_
        obtain ⟨c_7, h⟩ := og h
        refine r_xald (pc := 208) rfl c_7 rfl dL_law_208 ?_
        refine r_aload_n (pc := 209) (i := 0) dL_law_209 rfl 0 rfl ?_
        refine r_iload_n (pc := 210) (i := 3) dL_law_210 rfl 3 rfl ?_
        refine r_iconst (pc := 211) (v := 5) dL_law_211 (by decide +kernel) ?_
        refine r_iadd (pc := 212) dL_law_212 ?_
        obtain ⟨c_8, h⟩ := og h
        refine r_xald (pc := 213) rfl c_8 rfl dL_law_213 ?_
        obtain ⟨q_9, hq_9, h⟩ := ob h
        refine r_cVg (pc := 214) (Y := xX11_feed) (As := [.int (eI (xs (wI (x3 + 1)).toNat)), .int (eI (xs (wI (x3 + 2)).toNat)), .int (eI (xs (wI (x3 + 3)).toNat)), .int (eI (xs (wI (x3 + 4)).toNat)), .int (eI (xs (wI (x3 + 5)).toNat))]) (rest := []) (v := (some (.int (eI (q_9.1))))) (st1 := [.int (eI (q_9.1))]) ck_L_law_13 (kX11_feed a1 (xs (wI (x3 + 1)).toNat) (xs (wI (x3 + 2)).toNat) (xs (wI (x3 + 3)).toNat) (xs (wI (x3 + 4)).toNat) (xs (wI (x3 + 5)).toNat) M oa1 hq_9) oa1 rfl rfl rfl rfl (Nat.le_of_ble_eq_true rfl) ⟨rfl, rfl⟩ hce rfl dL_law_214 ?_
        refine r_aload_n (pc := 217) (i := 2) dL_law_217 rfl 2 rfl ?_
        refine r_aload_n (pc := 218) (i := 0) dL_law_218 rfl 0 rfl ?_
        refine r_iload_n (pc := 219) (i := 3) dL_law_219 rfl 3 rfl ?_
        refine r_iconst (pc := 220) (v := 1) dL_law_220 (by decide +kernel) ?_
        refine r_iadd (pc := 221) dL_law_221 ?_
        obtain ⟨c_10, h⟩ := og h
        refine r_xald (pc := 222) rfl c_10 rfl dL_law_222 ?_
        refine r_aload_n (pc := 223) (i := 0) dL_law_223 rfl 0 rfl ?_
        refine r_iload_n (pc := 224) (i := 3) dL_law_224 rfl 3 rfl ?_
        refine r_iconst (pc := 225) (v := 2) dL_law_225 (by decide +kernel) ?_
        refine r_iadd (pc := 226) dL_law_226 ?_
        obtain ⟨c_11, h⟩ := og h
        refine r_xald (pc := 227) rfl c_11 rfl dL_law_227 ?_
        refine r_aload_n (pc := 228) (i := 0) dL_law_228 rfl 0 rfl ?_
        refine r_iload_n (pc := 229) (i := 3) dL_law_229 rfl 3 rfl ?_
        refine r_iconst (pc := 230) (v := 3) dL_law_230 (by decide +kernel) ?_
        refine r_iadd (pc := 231) dL_law_231 ?_
        obtain ⟨c_12, h⟩ := og h
        refine r_xald (pc := 232) rfl c_12 rfl dL_law_232 ?_
        refine r_aload_n (pc := 233) (i := 0) dL_law_233 rfl 0 rfl ?_
        refine r_iload_n (pc := 234) (i := 3) dL_law_234 rfl 3 rfl ?_
        refine r_iconst (pc := 235) (v := 4) dL_law_235 (by decide +kernel) ?_
        refine r_iadd (pc := 236) dL_law_236 ?_
        obtain ⟨c_13, h⟩ := og h
        refine r_xald (pc := 237) rfl c_13 rfl dL_law_237 ?_
        refine r_aload_n (pc := 238) (i := 0) dL_law_238 rfl 0 rfl ?_
        refine r_iload_n (pc := 239) (i := 3) dL_law_239 rfl 3 rfl ?_
        refine r_iconst (pc := 240) (v := 5) dL_law_240 (by decide +kernel) ?_
        refine r_iadd (pc := 241) dL_law_241 ?_
        obtain ⟨c_14, h⟩ := og h
        refine r_xald (pc := 242) rfl c_14 rfl dL_law_242 ?_
        obtain ⟨q_15, hq_15, h⟩ := ob h
        refine r_cVg (pc := 243) (Y := xX12_feed) (As := [.int (eI (xs (wI (x3 + 1)).toNat)), .int (eI (xs (wI (x3 + 2)).toNat)), .int (eI (xs (wI (x3 + 3)).toNat)), .int (eI (xs (wI (x3 + 4)).toNat)), .int (eI (xs (wI (x3 + 5)).toNat))]) (rest := [.int (eI (q_9.1))]) (v := (some (.int (eI (q_15.1))))) (st1 := [.int (eI (q_15.1)), .int (eI (q_9.1))]) ck_L_law_17 (kX12_feed a2 (xs (wI (x3 + 1)).toNat) (xs (wI (x3 + 2)).toNat) (xs (wI (x3 + 3)).toNat) (xs (wI (x3 + 4)).toNat) (xs (wI (x3 + 5)).toNat) q_9.2 oa2 hq_15) oa2 rfl rfl rfl rfl (Nat.le_of_ble_eq_true rfl) ⟨rfl, rfl⟩ hce rfl dL_law_243 ?_
        refine r_icmp_eq (pc := 246) (tgt := 1792) dL_law_246 (by decide) rfl rfl (fun c_16 => ?_) (fun c_16 => ?_)
        · replace h := (if_pos c_16).symm.trans h
          refine r_sub (lv' := [(0, .ref c0), (1, .ref (gA G a1)), (2, .ref (gA G a2)), (3, .int (eI x3))]) [0, 1, 2, 3] rfl ?_
          exact bL_law_b1792 hce xs lx c0 a1 a2 oa1 oa2 _ _ (fun v0 v1 v2 => ih v0 v1 v2) h
        · replace h := (if_neg c_16).symm.trans h
          refine r_iconst (pc := 249) (v := 0) dL_law_249 (by decide +kernel) ?_
          cases h
      · replace h := (if_neg c_3).symm.trans h
        by_cases c_17 : wI ((xs (wI x3).toNat) % 64) = 1
        · replace h := (if_pos c_17).symm.trans h
          refine r_tsw (pc := 33) (tgt := 251) (k' := 1) (rfl.trans c_17) dL_law_33 (by decide) rfl (by decide) ?_
          refine r_aload_n (pc := 251) (i := 1) dL_law_251 rfl 1 rfl ?_
          refine r_aload_n (pc := 252) (i := 0) dL_law_252 rfl 0 rfl ?_
          refine r_iload_n (pc := 253) (i := 3) dL_law_253 rfl 3 rfl ?_
          refine r_iconst (pc := 254) (v := 1) dL_law_254 (by decide +kernel) ?_
          refine r_iadd (pc := 255) dL_law_255 ?_
          obtain ⟨c_18, h⟩ := og h
          refine r_xald (pc := 256) rfl c_18 rfl dL_law_256 ?_
          obtain ⟨q_19, hq_19, h⟩ := ob h
          refine r_cVg (pc := 257) (Y := xX11_end) (As := [.int (eI (xs (wI (x3 + 1)).toNat))]) (rest := []) (v := (some (.int (eI (q_19.1))))) (st1 := [.int (eI (q_19.1))]) ck_L_law_18 (kX11_end a1 (xs (wI (x3 + 1)).toNat) M oa1 hq_19) oa1 rfl rfl rfl rfl (Nat.le_of_ble_eq_true rfl) ⟨rfl, rfl⟩ hce rfl dL_law_257 ?_
          refine r_aload_n (pc := 260) (i := 2) dL_law_260 rfl 2 rfl ?_
          refine r_aload_n (pc := 261) (i := 0) dL_law_261 rfl 0 rfl ?_
          refine r_iload_n (pc := 262) (i := 3) dL_law_262 rfl 3 rfl ?_
          refine r_iconst (pc := 263) (v := 1) dL_law_263 (by decide +kernel) ?_
          refine r_iadd (pc := 264) dL_law_264 ?_
          obtain ⟨c_20, h⟩ := og h
          refine r_xald (pc := 265) rfl c_20 rfl dL_law_265 ?_
          obtain ⟨q_21, hq_21, h⟩ := ob h
          refine r_cVg (pc := 266) (Y := xX12_end) (As := [.int (eI (xs (wI (x3 + 1)).toNat))]) (rest := [.int (eI (q_19.1))]) (v := (some (.int (eI (q_21.1))))) (st1 := [.int (eI (q_21.1)), .int (eI (q_19.1))]) ck_L_law_22 (kX12_end a2 (xs (wI (x3 + 1)).toNat) q_19.2 oa2 hq_21) oa2 rfl rfl rfl rfl (Nat.le_of_ble_eq_true rfl) ⟨rfl, rfl⟩ hce rfl dL_law_266 ?_
          refine r_icmp_eq (pc := 269) (tgt := 1792) dL_law_269 (by decide) rfl rfl (fun c_22 => ?_) (fun c_22 => ?_)
          · replace h := (if_pos c_22).symm.trans h
            refine r_sub (lv' := [(0, .ref c0), (1, .ref (gA G a1)), (2, .ref (gA G a2)), (3, .int (eI x3))]) [0, 1, 2, 3] rfl ?_
            exact bL_law_b1792 hce xs lx c0 a1 a2 oa1 oa2 _ _ (fun v0 v1 v2 => ih v0 v1 v2) h
          · replace h := (if_neg c_22).symm.trans h
            refine r_iconst (pc := 272) (v := 0) dL_law_272 (by decide +kernel) ?_
            cases h
        · replace h := (if_neg c_17).symm.trans h
          by_cases c_23 : wI ((xs (wI x3).toNat) % 64) = 2
          · replace h := (if_pos c_23).symm.trans h
            refine r_tsw (pc := 33) (tgt := 274) (k' := 2) (rfl.trans c_23) dL_law_33 (by decide) rfl (by decide) ?_
            refine r_aload_n (pc := 274) (i := 1) dL_law_274 rfl 1 rfl ?_
            refine r_aload_n (pc := 275) (i := 0) dL_law_275 rfl 0 rfl ?_
            refine r_iload_n (pc := 276) (i := 3) dL_law_276 rfl 3 rfl ?_
            refine r_iconst (pc := 277) (v := 1) dL_law_277 (by decide +kernel) ?_
            refine r_iadd (pc := 278) dL_law_278 ?_
            obtain ⟨c_24, h⟩ := og h
            refine r_xald (pc := 279) rfl c_24 rfl dL_law_279 ?_
            refine r_aload_n (pc := 280) (i := 0) dL_law_280 rfl 0 rfl ?_
            refine r_iload_n (pc := 281) (i := 3) dL_law_281 rfl 3 rfl ?_
            refine r_iconst (pc := 282) (v := 2) dL_law_282 (by decide +kernel) ?_
            refine r_iadd (pc := 283) dL_law_283 ?_
            obtain ⟨c_25, h⟩ := og h
            refine r_xald (pc := 284) rfl c_25 rfl dL_law_284 ?_
            obtain ⟨q_26, hq_26, h⟩ := ob h
            refine r_cVg (pc := 285) (Y := xX11_text) (As := [.int (eI (xs (wI (x3 + 1)).toNat)), .int (eI (xs (wI (x3 + 2)).toNat))]) (rest := []) (v := (some (.int (eI (q_26.1))))) (st1 := [.int (eI (q_26.1))]) ck_L_law_23 (kX11_text a1 (xs (wI (x3 + 1)).toNat) (xs (wI (x3 + 2)).toNat) M oa1 hq_26) oa1 rfl rfl rfl rfl (Nat.le_of_ble_eq_true rfl) ⟨rfl, rfl⟩ hce rfl dL_law_285 ?_
            refine r_aload_n (pc := 288) (i := 2) dL_law_288 rfl 2 rfl ?_
            refine r_aload_n (pc := 289) (i := 0) dL_law_289 rfl 0 rfl ?_
            refine r_iload_n (pc := 290) (i := 3) dL_law_290 rfl 3 rfl ?_
            refine r_iconst (pc := 291) (v := 1) dL_law_291 (by decide +kernel) ?_
            refine r_iadd (pc := 292) dL_law_292 ?_
            obtain ⟨c_27, h⟩ := og h
            refine r_xald (pc := 293) rfl c_27 rfl dL_law_293 ?_
            refine r_aload_n (pc := 294) (i := 0) dL_law_294 rfl 0 rfl ?_
            refine r_iload_n (pc := 295) (i := 3) dL_law_295 rfl 3 rfl ?_
            refine r_iconst (pc := 296) (v := 2) dL_law_296 (by decide +kernel) ?_
            refine r_iadd (pc := 297) dL_law_297 ?_
            obtain ⟨c_28, h⟩ := og h
            refine r_xald (pc := 298) rfl c_28 rfl dL_law_298 ?_
            obtain ⟨q_29, hq_29, h⟩ := ob h
            refine r_cVg (pc := 299) (Y := xX12_text) (As := [.int (eI (xs (wI (x3 + 1)).toNat)), .int (eI (xs (wI (x3 + 2)).toNat))]) (rest := [.int (eI (q_26.1))]) (v := (some (.int (eI (q_29.1))))) (st1 := [.int (eI (q_29.1)), .int (eI (q_26.1))]) ck_L_law_27 (kX12_text a2 (xs (wI (x3 + 1)).toNat) (xs (wI (x3 + 2)).toNat) q_26.2 oa2 hq_29) oa2 rfl rfl rfl rfl (Nat.le_of_ble_eq_true rfl) ⟨rfl, rfl⟩ hce rfl dL_law_299 ?_
            refine r_icmp_eq (pc := 302) (tgt := 1792) dL_law_302 (by decide) rfl rfl (fun c_30 => ?_) (fun c_30 => ?_)
            · replace h := (if_pos c_30).symm.trans h
              refine r_sub (lv' := [(0, .ref c0), (1, .ref (gA G a1)), (2, .ref (gA G a2)), (3, .int (eI x3))]) [0, 1, 2, 3] rfl ?_
              exact bL_law_b1792 hce xs lx c0 a1 a2 oa1 oa2 _ _ (fun v0 v1 v2 => ih v0 v1 v2) h
            · replace h := (if_neg c_30).symm.trans h
              refine r_iconst (pc := 305) (v := 0) dL_law_305 (by decide +kernel) ?_
              cases h
          · replace h := (if_neg c_23).symm.trans h
            by_cases c_31 : wI ((xs (wI x3).toNat) % 64) = 3
            · replace h := (if_pos c_31).symm.trans h
              refine r_tsw (pc := 33) (tgt := 307) (k' := 3) (rfl.trans c_31) dL_law_33 (by decide) rfl (by decide) ?_
              refine r_aload_n (pc := 307) (i := 1) dL_law_307 rfl 1 rfl ?_
              refine r_aload_n (pc := 308) (i := 0) dL_law_308 rfl 0 rfl ?_
              refine r_iload_n (pc := 309) (i := 3) dL_law_309 rfl 3 rfl ?_
              refine r_iconst (pc := 310) (v := 1) dL_law_310 (by decide +kernel) ?_
              refine r_iadd (pc := 311) dL_law_311 ?_
              obtain ⟨c_32, h⟩ := og h
              refine r_xald (pc := 312) rfl c_32 rfl dL_law_312 ?_
              refine r_cVg (pc := 313) (Y := xX11_fault) (As := [.int (eI (xs (wI (x3 + 1)).toNat))]) (rest := []) (v := (some (.int (eI (sX11_fault a1 (xs (wI (x3 + 1)).toNat) M))))) (st1 := [.int (eI (sX11_fault a1 (xs (wI (x3 + 1)).toNat) M))]) ck_L_law_28 (kX11_fault a1 (xs (wI (x3 + 1)).toNat) M oa1) oa1 rfl rfl rfl rfl (Nat.le_of_ble_eq_true rfl) ⟨rfl, rfl⟩ hce rfl dL_law_313 ?_
              refine r_aload_n (pc := 316) (i := 2) dL_law_316 rfl 2 rfl ?_
              refine r_aload_n (pc := 317) (i := 0) dL_law_317 rfl 0 rfl ?_
              refine r_iload_n (pc := 318) (i := 3) dL_law_318 rfl 3 rfl ?_
              refine r_iconst (pc := 319) (v := 1) dL_law_319 (by decide +kernel) ?_
              refine r_iadd (pc := 320) dL_law_320 ?_
              obtain ⟨c_33, h⟩ := og h
              refine r_xald (pc := 321) rfl c_33 rfl dL_law_321 ?_
              obtain ⟨q_34, hq_34, h⟩ := ob h
              refine r_cVg (pc := 322) (Y := xX12_fault) (As := [.int (eI (xs (wI (x3 + 1)).toNat))]) (rest := [.int (eI (sX11_fault a1 (xs (wI (x3 + 1)).toNat) M))]) (v := (some (.int (eI (q_34.1))))) (st1 := [.int (eI (q_34.1)), .int (eI (sX11_fault a1 (xs (wI (x3 + 1)).toNat) M))]) ck_L_law_31 (kX12_fault a2 (xs (wI (x3 + 1)).toNat) M oa2 hq_34) oa2 rfl rfl rfl rfl (Nat.le_of_ble_eq_true rfl) ⟨rfl, rfl⟩ hce rfl dL_law_322 ?_
              refine r_icmp_eq (pc := 325) (tgt := 1792) dL_law_325 (by decide) rfl rfl (fun c_35 => ?_) (fun c_35 => ?_)
              · replace h := (if_pos c_35).symm.trans h
                refine r_sub (lv' := [(0, .ref c0), (1, .ref (gA G a1)), (2, .ref (gA G a2)), (3, .int (eI x3))]) [0, 1, 2, 3] rfl ?_
                exact bL_law_b1792 hce xs lx c0 a1 a2 oa1 oa2 _ _ (fun v0 v1 v2 => ih v0 v1 v2) h
              · replace h := (if_neg c_35).symm.trans h
                refine r_iconst (pc := 328) (v := 0) dL_law_328 (by decide +kernel) ?_
                cases h
            · replace h := (if_neg c_31).symm.trans h
              by_cases c_36 : wI ((xs (wI x3).toNat) % 64) = 4
              · replace h := (if_pos c_36).symm.trans h
                refine r_tsw (pc := 33) (tgt := 330) (k' := 4) (rfl.trans c_36) dL_law_33 (by decide) rfl (by decide) ?_
                refine r_aload_n (pc := 330) (i := 1) dL_law_330 rfl 1 rfl ?_
                refine r_aload_n (pc := 331) (i := 0) dL_law_331 rfl 0 rfl ?_
                refine r_iload_n (pc := 332) (i := 3) dL_law_332 rfl 3 rfl ?_
                refine r_iconst (pc := 333) (v := 1) dL_law_333 (by decide +kernel) ?_
                refine r_iadd (pc := 334) dL_law_334 ?_
                obtain ⟨c_37, h⟩ := og h
                refine r_xald (pc := 335) rfl c_37 rfl dL_law_335 ?_
                refine r_aload_n (pc := 336) (i := 0) dL_law_336 rfl 0 rfl ?_
                refine r_iload_n (pc := 337) (i := 3) dL_law_337 rfl 3 rfl ?_
                refine r_iconst (pc := 338) (v := 2) dL_law_338 (by decide +kernel) ?_
                refine r_iadd (pc := 339) dL_law_339 ?_
                obtain ⟨c_38, h⟩ := og h
                refine r_xald (pc := 340) rfl c_38 rfl dL_law_340 ?_
                obtain ⟨q_39, hq_39, h⟩ := ob h
                refine r_cVg (pc := 341) (Y := xX11_party) (As := [.int (eI (xs (wI (x3 + 1)).toNat)), .int (eI (xs (wI (x3 + 2)).toNat))]) (rest := []) (v := (some (.int (eI q_39)))) (st1 := [.int (eI q_39)]) ck_L_law_32 (kX11_party a1 (xs (wI (x3 + 1)).toNat) (xs (wI (x3 + 2)).toNat) M oa1 hq_39) oa1 rfl rfl rfl rfl (Nat.le_of_ble_eq_true rfl) ⟨rfl, rfl⟩ hce rfl dL_law_341 ?_
                refine r_aload_n (pc := 344) (i := 2) dL_law_344 rfl 2 rfl ?_
                refine r_aload_n (pc := 345) (i := 0) dL_law_345 rfl 0 rfl ?_
                refine r_iload_n (pc := 346) (i := 3) dL_law_346 rfl 3 rfl ?_
                refine r_iconst (pc := 347) (v := 1) dL_law_347 (by decide +kernel) ?_
                refine r_iadd (pc := 348) dL_law_348 ?_
                obtain ⟨c_40, h⟩ := og h
                refine r_xald (pc := 349) rfl c_40 rfl dL_law_349 ?_
                refine r_aload_n (pc := 350) (i := 0) dL_law_350 rfl 0 rfl ?_
                refine r_iload_n (pc := 351) (i := 3) dL_law_351 rfl 3 rfl ?_
                refine r_iconst (pc := 352) (v := 2) dL_law_352 (by decide +kernel) ?_
                refine r_iadd (pc := 353) dL_law_353 ?_
                obtain ⟨c_41, h⟩ := og h
                refine r_xald (pc := 354) rfl c_41 rfl dL_law_354 ?_
                obtain ⟨q_42, hq_42, h⟩ := ob h
                refine r_cVg (pc := 355) (Y := xX12_party) (As := [.int (eI (xs (wI (x3 + 1)).toNat)), .int (eI (xs (wI (x3 + 2)).toNat))]) (rest := [.int (eI q_39)]) (v := (some (.int (eI (q_42.1))))) (st1 := [.int (eI (q_42.1)), .int (eI q_39)]) ck_L_law_35 (kX12_party a2 (xs (wI (x3 + 1)).toNat) (xs (wI (x3 + 2)).toNat) M oa2 hq_42) oa2 rfl rfl rfl rfl (Nat.le_of_ble_eq_true rfl) ⟨rfl, rfl⟩ hce rfl dL_law_355 ?_
                refine r_icmp_eq (pc := 358) (tgt := 1792) dL_law_358 (by decide) rfl rfl (fun c_43 => ?_) (fun c_43 => ?_)
                · replace h := (if_pos c_43).symm.trans h
                  refine r_sub (lv' := [(0, .ref c0), (1, .ref (gA G a1)), (2, .ref (gA G a2)), (3, .int (eI x3))]) [0, 1, 2, 3] rfl ?_
                  exact bL_law_b1792 hce xs lx c0 a1 a2 oa1 oa2 _ _ (fun v0 v1 v2 => ih v0 v1 v2) h
                · replace h := (if_neg c_43).symm.trans h
                  refine r_iconst (pc := 361) (v := 0) dL_law_361 (by decide +kernel) ?_
                  cases h
              · replace h := (if_neg c_36).symm.trans h
                by_cases c_44 : wI ((xs (wI x3).toNat) % 64) = 5
                · replace h := (if_pos c_44).symm.trans h
                  refine r_tsw (pc := 33) (tgt := 363) (k' := 5) (rfl.trans c_44) dL_law_33 (by decide) rfl (by decide) ?_
                  refine r_aload_n (pc := 363) (i := 1) dL_law_363 rfl 1 rfl ?_
                  refine r_aload_n (pc := 364) (i := 0) dL_law_364 rfl 0 rfl ?_
                  refine r_iload_n (pc := 365) (i := 3) dL_law_365 rfl 3 rfl ?_
                  refine r_iconst (pc := 366) (v := 1) dL_law_366 (by decide +kernel) ?_
                  refine r_iadd (pc := 367) dL_law_367 ?_
                  obtain ⟨c_45, h⟩ := og h
                  refine r_xald (pc := 368) rfl c_45 rfl dL_law_368 ?_
                  refine r_aload_n (pc := 369) (i := 0) dL_law_369 rfl 0 rfl ?_
                  refine r_iload_n (pc := 370) (i := 3) dL_law_370 rfl 3 rfl ?_
                  refine r_iconst (pc := 371) (v := 2) dL_law_371 (by decide +kernel) ?_
                  refine r_iadd (pc := 372) dL_law_372 ?_
                  obtain ⟨c_46, h⟩ := og h
                  refine r_xald (pc := 373) rfl c_46 rfl dL_law_373 ?_
                  refine r_aload_n (pc := 374) (i := 0) dL_law_374 rfl 0 rfl ?_
                  refine r_iload_n (pc := 375) (i := 3) dL_law_375 rfl 3 rfl ?_
                  refine r_iconst (pc := 376) (v := 3) dL_law_376 (by decide +kernel) ?_
                  refine r_iadd (pc := 377) dL_law_377 ?_
                  obtain ⟨c_47, h⟩ := og h
                  refine r_xald (pc := 378) rfl c_47 rfl dL_law_378 ?_
                  obtain ⟨q_48, hq_48, h⟩ := ob h
                  refine r_cVg (pc := 379) (Y := xX11_child) (As := [.int (eI (xs (wI (x3 + 1)).toNat)), .int (eI (xs (wI (x3 + 2)).toNat)), .int (eI (xs (wI (x3 + 3)).toNat))]) (rest := []) (v := (some (.int (eI q_48)))) (st1 := [.int (eI q_48)]) ck_L_law_36 (kX11_child a1 (xs (wI (x3 + 1)).toNat) (xs (wI (x3 + 2)).toNat) (xs (wI (x3 + 3)).toNat) M oa1 hq_48) oa1 rfl rfl rfl rfl (Nat.le_of_ble_eq_true rfl) ⟨rfl, rfl⟩ hce rfl dL_law_379 ?_
                  refine r_aload_n (pc := 382) (i := 2) dL_law_382 rfl 2 rfl ?_
                  refine r_aload_n (pc := 383) (i := 0) dL_law_383 rfl 0 rfl ?_
                  refine r_iload_n (pc := 384) (i := 3) dL_law_384 rfl 3 rfl ?_
                  refine r_iconst (pc := 385) (v := 1) dL_law_385 (by decide +kernel) ?_
                  refine r_iadd (pc := 386) dL_law_386 ?_
                  obtain ⟨c_49, h⟩ := og h
                  refine r_xald (pc := 387) rfl c_49 rfl dL_law_387 ?_
                  refine r_aload_n (pc := 388) (i := 0) dL_law_388 rfl 0 rfl ?_
                  refine r_iload_n (pc := 389) (i := 3) dL_law_389 rfl 3 rfl ?_
                  refine r_iconst (pc := 390) (v := 2) dL_law_390 (by decide +kernel) ?_
                  refine r_iadd (pc := 391) dL_law_391 ?_
                  obtain ⟨c_50, h⟩ := og h
                  refine r_xald (pc := 392) rfl c_50 rfl dL_law_392 ?_
                  refine r_aload_n (pc := 393) (i := 0) dL_law_393 rfl 0 rfl ?_
                  refine r_iload_n (pc := 394) (i := 3) dL_law_394 rfl 3 rfl ?_
                  refine r_iconst (pc := 395) (v := 3) dL_law_395 (by decide +kernel) ?_
                  refine r_iadd (pc := 396) dL_law_396 ?_
                  obtain ⟨c_51, h⟩ := og h
                  refine r_xald (pc := 397) rfl c_51 rfl dL_law_397 ?_
                  obtain ⟨q_52, hq_52, h⟩ := ob h
                  refine r_cVg (pc := 398) (Y := xX12_child) (As := [.int (eI (xs (wI (x3 + 1)).toNat)), .int (eI (xs (wI (x3 + 2)).toNat)), .int (eI (xs (wI (x3 + 3)).toNat))]) (rest := [.int (eI q_48)]) (v := (some (.int (eI (q_52.1))))) (st1 := [.int (eI (q_52.1)), .int (eI q_48)]) ck_L_law_40 (kX12_child a2 (xs (wI (x3 + 1)).toNat) (xs (wI (x3 + 2)).toNat) (xs (wI (x3 + 3)).toNat) M oa2 hq_52) oa2 rfl rfl rfl rfl (Nat.le_of_ble_eq_true rfl) ⟨rfl, rfl⟩ hce rfl dL_law_398 ?_
                  refine r_icmp_eq (pc := 401) (tgt := 1792) dL_law_401 (by decide) rfl rfl (fun c_53 => ?_) (fun c_53 => ?_)
                  · replace h := (if_pos c_53).symm.trans h
                    refine r_sub (lv' := [(0, .ref c0), (1, .ref (gA G a1)), (2, .ref (gA G a2)), (3, .int (eI x3))]) [0, 1, 2, 3] rfl ?_
                    exact bL_law_b1792 hce xs lx c0 a1 a2 oa1 oa2 _ _ (fun v0 v1 v2 => ih v0 v1 v2) h
                  · replace h := (if_neg c_53).symm.trans h
                    refine r_iconst (pc := 404) (v := 0) dL_law_404 (by decide +kernel) ?_
                    cases h
                · replace h := (if_neg c_44).symm.trans h
                  by_cases c_54 : wI ((xs (wI x3).toNat) % 64) = 6
                  · replace h := (if_pos c_54).symm.trans h
                    refine r_tsw (pc := 33) (tgt := 406) (k' := 6) (rfl.trans c_54) dL_law_33 (by decide) rfl (by decide) ?_
                    refine r_aload_n (pc := 406) (i := 1) dL_law_406 rfl 1 rfl ?_
                    refine r_aload_n (pc := 407) (i := 0) dL_law_407 rfl 0 rfl ?_
                    refine r_iload_n (pc := 408) (i := 3) dL_law_408 rfl 3 rfl ?_
                    refine r_iconst (pc := 409) (v := 1) dL_law_409 (by decide +kernel) ?_
                    refine r_iadd (pc := 410) dL_law_410 ?_
                    obtain ⟨c_55, h⟩ := og h
                    refine r_xald (pc := 411) rfl c_55 rfl dL_law_411 ?_
                    refine r_aload_n (pc := 412) (i := 0) dL_law_412 rfl 0 rfl ?_
                    refine r_iload_n (pc := 413) (i := 3) dL_law_413 rfl 3 rfl ?_
                    refine r_iconst (pc := 414) (v := 2) dL_law_414 (by decide +kernel) ?_
                    refine r_iadd (pc := 415) dL_law_415 ?_
                    obtain ⟨c_56, h⟩ := og h
                    refine r_xald (pc := 416) rfl c_56 rfl dL_law_416 ?_
                    refine r_aload_n (pc := 417) (i := 0) dL_law_417 rfl 0 rfl ?_
                    refine r_iload_n (pc := 418) (i := 3) dL_law_418 rfl 3 rfl ?_
                    refine r_iconst (pc := 419) (v := 3) dL_law_419 (by decide +kernel) ?_
                    refine r_iadd (pc := 420) dL_law_420 ?_
                    obtain ⟨c_57, h⟩ := og h
                    refine r_xald (pc := 421) rfl c_57 rfl dL_law_421 ?_
                    obtain ⟨q_58, hq_58, h⟩ := ob h
                    refine r_cVg (pc := 422) (Y := xX11_deed) (As := [.int (eI (xs (wI (x3 + 1)).toNat)), .int (eI (xs (wI (x3 + 2)).toNat)), .int (eI (xs (wI (x3 + 3)).toNat))]) (rest := []) (v := (some (.int (eI q_58)))) (st1 := [.int (eI q_58)]) ck_L_law_41 (kX11_deed a1 (xs (wI (x3 + 1)).toNat) (xs (wI (x3 + 2)).toNat) (xs (wI (x3 + 3)).toNat) M oa1 hq_58) oa1 rfl rfl rfl rfl (Nat.le_of_ble_eq_true rfl) ⟨rfl, rfl⟩ hce rfl dL_law_422 ?_
                    refine r_aload_n (pc := 425) (i := 2) dL_law_425 rfl 2 rfl ?_
                    refine r_aload_n (pc := 426) (i := 0) dL_law_426 rfl 0 rfl ?_
                    refine r_iload_n (pc := 427) (i := 3) dL_law_427 rfl 3 rfl ?_
                    refine r_iconst (pc := 428) (v := 1) dL_law_428 (by decide +kernel) ?_
                    refine r_iadd (pc := 429) dL_law_429 ?_
                    obtain ⟨c_59, h⟩ := og h
                    refine r_xald (pc := 430) rfl c_59 rfl dL_law_430 ?_
                    refine r_aload_n (pc := 431) (i := 0) dL_law_431 rfl 0 rfl ?_
                    refine r_iload_n (pc := 432) (i := 3) dL_law_432 rfl 3 rfl ?_
                    refine r_iconst (pc := 433) (v := 2) dL_law_433 (by decide +kernel) ?_
                    refine r_iadd (pc := 434) dL_law_434 ?_
                    obtain ⟨c_60, h⟩ := og h
                    refine r_xald (pc := 435) rfl c_60 rfl dL_law_435 ?_
                    refine r_aload_n (pc := 436) (i := 0) dL_law_436 rfl 0 rfl ?_
                    refine r_iload_n (pc := 437) (i := 3) dL_law_437 rfl 3 rfl ?_
                    refine r_iconst (pc := 438) (v := 3) dL_law_438 (by decide +kernel) ?_
                    refine r_iadd (pc := 439) dL_law_439 ?_
                    obtain ⟨c_61, h⟩ := og h
                    refine r_xald (pc := 440) rfl c_61 rfl dL_law_440 ?_
                    obtain ⟨q_62, hq_62, h⟩ := ob h
                    refine r_cVg (pc := 441) (Y := xX12_deed) (As := [.int (eI (xs (wI (x3 + 1)).toNat)), .int (eI (xs (wI (x3 + 2)).toNat)), .int (eI (xs (wI (x3 + 3)).toNat))]) (rest := [.int (eI q_58)]) (v := (some (.int (eI (q_62.1))))) (st1 := [.int (eI (q_62.1)), .int (eI q_58)]) ck_L_law_44 (kX12_deed a2 (xs (wI (x3 + 1)).toNat) (xs (wI (x3 + 2)).toNat) (xs (wI (x3 + 3)).toNat) M oa2 hq_62) oa2 rfl rfl rfl rfl (Nat.le_of_ble_eq_true rfl) ⟨rfl, rfl⟩ hce rfl dL_law_441 ?_
                    refine r_icmp_eq (pc := 444) (tgt := 1792) dL_law_444 (by decide) rfl rfl (fun c_63 => ?_) (fun c_63 => ?_)
                    · replace h := (if_pos c_63).symm.trans h
                      refine r_sub (lv' := [(0, .ref c0), (1, .ref (gA G a1)), (2, .ref (gA G a2)), (3, .int (eI x3))]) [0, 1, 2, 3] rfl ?_
                      exact bL_law_b1792 hce xs lx c0 a1 a2 oa1 oa2 _ _ (fun v0 v1 v2 => ih v0 v1 v2) h
                    · replace h := (if_neg c_63).symm.trans h
                      refine r_iconst (pc := 447) (v := 0) dL_law_447 (by decide +kernel) ?_
                      cases h
                  · replace h := (if_neg c_54).symm.trans h
                    by_cases c_64 : wI ((xs (wI x3).toNat) % 64) = 7
                    · replace h := (if_pos c_64).symm.trans h
                      refine r_tsw (pc := 33) (tgt := 449) (k' := 7) (rfl.trans c_64) dL_law_33 (by decide) rfl (by decide) ?_
                      refine r_aload_n (pc := 449) (i := 1) dL_law_449 rfl 1 rfl ?_
                      refine r_aload_n (pc := 450) (i := 0) dL_law_450 rfl 0 rfl ?_
                      refine r_iload_n (pc := 451) (i := 3) dL_law_451 rfl 3 rfl ?_
                      refine r_iconst (pc := 452) (v := 1) dL_law_452 (by decide +kernel) ?_
                      refine r_iadd (pc := 453) dL_law_453 ?_
                      obtain ⟨c_65, h⟩ := og h
                      refine r_xald (pc := 454) rfl c_65 rfl dL_law_454 ?_
                      refine r_aload_n (pc := 455) (i := 0) dL_law_455 rfl 0 rfl ?_
                      refine r_iload_n (pc := 456) (i := 3) dL_law_456 rfl 3 rfl ?_
                      refine r_iconst (pc := 457) (v := 2) dL_law_457 (by decide +kernel) ?_
                      refine r_iadd (pc := 458) dL_law_458 ?_
                      obtain ⟨c_66, h⟩ := og h
                      refine r_xald (pc := 459) rfl c_66 rfl dL_law_459 ?_
                      obtain ⟨q_67, hq_67, h⟩ := ob h
                      refine r_cVg (pc := 460) (Y := xX11_stop) (As := [.int (eI (xs (wI (x3 + 1)).toNat)), .int (eI (xs (wI (x3 + 2)).toNat))]) (rest := []) (v := (some (.int (eI (q_67.1))))) (st1 := [.int (eI (q_67.1))]) ck_L_law_45 (kX11_stop a1 (xs (wI (x3 + 1)).toNat) (xs (wI (x3 + 2)).toNat) M oa1 hq_67) oa1 rfl rfl rfl rfl (Nat.le_of_ble_eq_true rfl) ⟨rfl, rfl⟩ hce rfl dL_law_460 ?_
                      refine r_aload_n (pc := 463) (i := 2) dL_law_463 rfl 2 rfl ?_
                      refine r_aload_n (pc := 464) (i := 0) dL_law_464 rfl 0 rfl ?_
                      refine r_iload_n (pc := 465) (i := 3) dL_law_465 rfl 3 rfl ?_
                      refine r_iconst (pc := 466) (v := 1) dL_law_466 (by decide +kernel) ?_
                      refine r_iadd (pc := 467) dL_law_467 ?_
                      obtain ⟨c_68, h⟩ := og h
                      refine r_xald (pc := 468) rfl c_68 rfl dL_law_468 ?_
                      refine r_aload_n (pc := 469) (i := 0) dL_law_469 rfl 0 rfl ?_
                      refine r_iload_n (pc := 470) (i := 3) dL_law_470 rfl 3 rfl ?_
                      refine r_iconst (pc := 471) (v := 2) dL_law_471 (by decide +kernel) ?_
                      refine r_iadd (pc := 472) dL_law_472 ?_
                      obtain ⟨c_69, h⟩ := og h
                      refine r_xald (pc := 473) rfl c_69 rfl dL_law_473 ?_
                      obtain ⟨q_70, hq_70, h⟩ := ob h
                      refine r_cVg (pc := 474) (Y := xX12_stop) (As := [.int (eI (xs (wI (x3 + 1)).toNat)), .int (eI (xs (wI (x3 + 2)).toNat))]) (rest := [.int (eI (q_67.1))]) (v := (some (.int (eI (q_70.1))))) (st1 := [.int (eI (q_70.1)), .int (eI (q_67.1))]) ck_L_law_48 (kX12_stop a2 (xs (wI (x3 + 1)).toNat) (xs (wI (x3 + 2)).toNat) q_67.2 oa2 hq_70) oa2 rfl rfl rfl rfl (Nat.le_of_ble_eq_true rfl) ⟨rfl, rfl⟩ hce rfl dL_law_474 ?_
                      refine r_icmp_eq (pc := 477) (tgt := 1792) dL_law_477 (by decide) rfl rfl (fun c_71 => ?_) (fun c_71 => ?_)
                      · replace h := (if_pos c_71).symm.trans h
                        refine r_sub (lv' := [(0, .ref c0), (1, .ref (gA G a1)), (2, .ref (gA G a2)), (3, .int (eI x3))]) [0, 1, 2, 3] rfl ?_
                        exact bL_law_b1792 hce xs lx c0 a1 a2 oa1 oa2 _ _ (fun v0 v1 v2 => ih v0 v1 v2) h
                      · replace h := (if_neg c_71).symm.trans h
                        refine r_iconst (pc := 480) (v := 0) dL_law_480 (by decide +kernel) ?_
                        cases h
                    · replace h := (if_neg c_64).symm.trans h
                      by_cases c_72 : wI ((xs (wI x3).toNat) % 64) = 8
                      · replace h := (if_pos c_72).symm.trans h
                        refine r_tsw (pc := 33) (tgt := 482) (k' := 8) (rfl.trans c_72) dL_law_33 (by decide) rfl (by decide) ?_
                        refine r_aload_n (pc := 482) (i := 1) dL_law_482 rfl 1 rfl ?_
                        refine r_aload_n (pc := 483) (i := 0) dL_law_483 rfl 0 rfl ?_
                        refine r_iload_n (pc := 484) (i := 3) dL_law_484 rfl 3 rfl ?_
                        refine r_iconst (pc := 485) (v := 1) dL_law_485 (by decide +kernel) ?_
                        refine r_iadd (pc := 486) dL_law_486 ?_
                        obtain ⟨c_73, h⟩ := og h
                        refine r_xald (pc := 487) rfl c_73 rfl dL_law_487 ?_
                        refine r_aload_n (pc := 488) (i := 0) dL_law_488 rfl 0 rfl ?_
                        refine r_iload_n (pc := 489) (i := 3) dL_law_489 rfl 3 rfl ?_
                        refine r_iconst (pc := 490) (v := 2) dL_law_490 (by decide +kernel) ?_
                        refine r_iadd (pc := 491) dL_law_491 ?_
                        obtain ⟨c_74, h⟩ := og h
                        refine r_xald (pc := 492) rfl c_74 rfl dL_law_492 ?_
                        refine r_aload_n (pc := 493) (i := 0) dL_law_493 rfl 0 rfl ?_
                        refine r_iload_n (pc := 494) (i := 3) dL_law_494 rfl 3 rfl ?_
                        refine r_iconst (pc := 495) (v := 3) dL_law_495 (by decide +kernel) ?_
                        refine r_iadd (pc := 496) dL_law_496 ?_
                        obtain ⟨c_75, h⟩ := og h
                        refine r_xald (pc := 497) rfl c_75 rfl dL_law_497 ?_
                        refine r_aload_n (pc := 498) (i := 0) dL_law_498 rfl 0 rfl ?_
                        refine r_iload_n (pc := 499) (i := 3) dL_law_499 rfl 3 rfl ?_
                        refine r_iconst (pc := 500) (v := 4) dL_law_500 (by decide +kernel) ?_
                        refine r_iadd (pc := 501) dL_law_501 ?_
                        obtain ⟨c_76, h⟩ := og h
                        refine r_xald (pc := 502) rfl c_76 rfl dL_law_502 ?_
                        obtain ⟨q_77, hq_77, h⟩ := ob h
                        refine r_cVg (pc := 503) (Y := xX11_state) (As := [.int (eI (xs (wI (x3 + 1)).toNat)), .int (eI (xs (wI (x3 + 2)).toNat)), .int (eI (xs (wI (x3 + 3)).toNat)), .int (eI (xs (wI (x3 + 4)).toNat))]) (rest := []) (v := (some (.int (eI (q_77.1))))) (st1 := [.int (eI (q_77.1))]) ck_L_law_49 (kX11_state a1 (xs (wI (x3 + 1)).toNat) (xs (wI (x3 + 2)).toNat) (xs (wI (x3 + 3)).toNat) (xs (wI (x3 + 4)).toNat) M oa1 hq_77) oa1 rfl rfl rfl rfl (Nat.le_of_ble_eq_true rfl) ⟨rfl, rfl⟩ hce rfl dL_law_503 ?_
                        refine r_aload_n (pc := 506) (i := 2) dL_law_506 rfl 2 rfl ?_
                        refine r_aload_n (pc := 507) (i := 0) dL_law_507 rfl 0 rfl ?_
                        refine r_iload_n (pc := 508) (i := 3) dL_law_508 rfl 3 rfl ?_
                        refine r_iconst (pc := 509) (v := 1) dL_law_509 (by decide +kernel) ?_
                        refine r_iadd (pc := 510) dL_law_510 ?_
                        obtain ⟨c_78, h⟩ := og h
                        refine r_xald (pc := 511) rfl c_78 rfl dL_law_511 ?_
                        refine r_aload_n (pc := 512) (i := 0) dL_law_512 rfl 0 rfl ?_
                        refine r_iload_n (pc := 513) (i := 3) dL_law_513 rfl 3 rfl ?_
                        refine r_iconst (pc := 514) (v := 2) dL_law_514 (by decide +kernel) ?_
                        refine r_iadd (pc := 515) dL_law_515 ?_
                        obtain ⟨c_79, h⟩ := og h
                        refine r_xald (pc := 516) rfl c_79 rfl dL_law_516 ?_
                        refine r_aload_n (pc := 517) (i := 0) dL_law_517 rfl 0 rfl ?_
                        refine r_iload_n (pc := 518) (i := 3) dL_law_518 rfl 3 rfl ?_
                        refine r_iconst (pc := 519) (v := 3) dL_law_519 (by decide +kernel) ?_
                        refine r_iadd (pc := 520) dL_law_520 ?_
                        obtain ⟨c_80, h⟩ := og h
                        refine r_xald (pc := 521) rfl c_80 rfl dL_law_521 ?_
                        refine r_aload_n (pc := 522) (i := 0) dL_law_522 rfl 0 rfl ?_
                        refine r_iload_n (pc := 523) (i := 3) dL_law_523 rfl 3 rfl ?_
                        refine r_iconst (pc := 524) (v := 4) dL_law_524 (by decide +kernel) ?_
                        refine r_iadd (pc := 525) dL_law_525 ?_
                        obtain ⟨c_81, h⟩ := og h
                        refine r_xald (pc := 526) rfl c_81 rfl dL_law_526 ?_
                        obtain ⟨q_82, hq_82, h⟩ := ob h
                        refine r_cVg (pc := 527) (Y := xX12_state) (As := [.int (eI (xs (wI (x3 + 1)).toNat)), .int (eI (xs (wI (x3 + 2)).toNat)), .int (eI (xs (wI (x3 + 3)).toNat)), .int (eI (xs (wI (x3 + 4)).toNat))]) (rest := [.int (eI (q_77.1))]) (v := (some (.int (eI (q_82.1))))) (st1 := [.int (eI (q_82.1)), .int (eI (q_77.1))]) ck_L_law_53 (kX12_state a2 (xs (wI (x3 + 1)).toNat) (xs (wI (x3 + 2)).toNat) (xs (wI (x3 + 3)).toNat) (xs (wI (x3 + 4)).toNat) q_77.2 oa2 hq_82) oa2 rfl rfl rfl rfl (Nat.le_of_ble_eq_true rfl) ⟨rfl, rfl⟩ hce rfl dL_law_527 ?_
                        refine r_icmp_eq (pc := 530) (tgt := 1792) dL_law_530 (by decide) rfl rfl (fun c_83 => ?_) (fun c_83 => ?_)
                        · replace h := (if_pos c_83).symm.trans h
                          refine r_sub (lv' := [(0, .ref c0), (1, .ref (gA G a1)), (2, .ref (gA G a2)), (3, .int (eI x3))]) [0, 1, 2, 3] rfl ?_
                          exact bL_law_b1792 hce xs lx c0 a1 a2 oa1 oa2 _ _ (fun v0 v1 v2 => ih v0 v1 v2) h
                        · replace h := (if_neg c_83).symm.trans h
                          refine r_iconst (pc := 533) (v := 0) dL_law_533 (by decide +kernel) ?_
                          cases h
                      · replace h := (if_neg c_72).symm.trans h
                        by_cases c_84 : wI ((xs (wI x3).toNat) % 64) = 9
                        · replace h := (if_pos c_84).symm.trans h
                          refine r_tsw (pc := 33) (tgt := 535) (k' := 9) (rfl.trans c_84) dL_law_33 (by decide) rfl (by decide) ?_
                          refine r_aload_n (pc := 535) (i := 1) dL_law_535 rfl 1 rfl ?_
                          refine r_aload_n (pc := 536) (i := 0) dL_law_536 rfl 0 rfl ?_
                          refine r_iload_n (pc := 537) (i := 3) dL_law_537 rfl 3 rfl ?_
                          refine r_iconst (pc := 538) (v := 1) dL_law_538 (by decide +kernel) ?_
                          refine r_iadd (pc := 539) dL_law_539 ?_
                          obtain ⟨c_85, h⟩ := og h
                          refine r_xald (pc := 540) rfl c_85 rfl dL_law_540 ?_
                          refine r_aload_n (pc := 541) (i := 0) dL_law_541 rfl 0 rfl ?_
                          refine r_iload_n (pc := 542) (i := 3) dL_law_542 rfl 3 rfl ?_
                          refine r_iconst (pc := 543) (v := 2) dL_law_543 (by decide +kernel) ?_
                          refine r_iadd (pc := 544) dL_law_544 ?_
                          obtain ⟨c_86, h⟩ := og h
                          refine r_xald (pc := 545) rfl c_86 rfl dL_law_545 ?_
                          refine r_aload_n (pc := 546) (i := 0) dL_law_546 rfl 0 rfl ?_
                          refine r_iload_n (pc := 547) (i := 3) dL_law_547 rfl 3 rfl ?_
                          refine r_iconst (pc := 548) (v := 3) dL_law_548 (by decide +kernel) ?_
                          refine r_iadd (pc := 549) dL_law_549 ?_
                          obtain ⟨c_87, h⟩ := og h
                          refine r_xald (pc := 550) rfl c_87 rfl dL_law_550 ?_
                          refine r_aload_n (pc := 551) (i := 0) dL_law_551 rfl 0 rfl ?_
                          refine r_iload_n (pc := 552) (i := 3) dL_law_552 rfl 3 rfl ?_
                          refine r_iconst (pc := 553) (v := 4) dL_law_553 (by decide +kernel) ?_
                          refine r_iadd (pc := 554) dL_law_554 ?_
                          obtain ⟨c_88, h⟩ := og h
                          refine r_xald (pc := 555) rfl c_88 rfl dL_law_555 ?_
                          refine r_aload_n (pc := 556) (i := 0) dL_law_556 rfl 0 rfl ?_
                          refine r_iload_n (pc := 557) (i := 3) dL_law_557 rfl 3 rfl ?_
                          refine r_iconst (pc := 558) (v := 5) dL_law_558 (by decide +kernel) ?_
                          refine r_iadd (pc := 559) dL_law_559 ?_
                          obtain ⟨c_89, h⟩ := og h
                          refine r_xald (pc := 560) rfl c_89 rfl dL_law_560 ?_
                          obtain ⟨q_90, hq_90, h⟩ := ob h
                          refine r_cVg (pc := 561) (Y := xX11_did) (As := [.int (eI (xs (wI (x3 + 1)).toNat)), .int (eI (xs (wI (x3 + 2)).toNat)), .int (eI (xs (wI (x3 + 3)).toNat)), .int (eI (xs (wI (x3 + 4)).toNat)), .int (eI (xs (wI (x3 + 5)).toNat))]) (rest := []) (v := (some (.int (eI (q_90.1))))) (st1 := [.int (eI (q_90.1))]) ck_L_law_54 (kX11_did a1 (xs (wI (x3 + 1)).toNat) (xs (wI (x3 + 2)).toNat) (xs (wI (x3 + 3)).toNat) (xs (wI (x3 + 4)).toNat) (xs (wI (x3 + 5)).toNat) M oa1 hq_90) oa1 rfl rfl rfl rfl (Nat.le_of_ble_eq_true rfl) ⟨rfl, rfl⟩ hce rfl dL_law_561 ?_
                          refine r_aload_n (pc := 564) (i := 2) dL_law_564 rfl 2 rfl ?_
                          refine r_aload_n (pc := 565) (i := 0) dL_law_565 rfl 0 rfl ?_
                          refine r_iload_n (pc := 566) (i := 3) dL_law_566 rfl 3 rfl ?_
                          refine r_iconst (pc := 567) (v := 1) dL_law_567 (by decide +kernel) ?_
                          refine r_iadd (pc := 568) dL_law_568 ?_
                          obtain ⟨c_91, h⟩ := og h
                          refine r_xald (pc := 569) rfl c_91 rfl dL_law_569 ?_
                          refine r_aload_n (pc := 570) (i := 0) dL_law_570 rfl 0 rfl ?_
                          refine r_iload_n (pc := 571) (i := 3) dL_law_571 rfl 3 rfl ?_
                          refine r_iconst (pc := 572) (v := 2) dL_law_572 (by decide +kernel) ?_
                          refine r_iadd (pc := 573) dL_law_573 ?_
                          obtain ⟨c_92, h⟩ := og h
                          refine r_xald (pc := 574) rfl c_92 rfl dL_law_574 ?_
                          refine r_aload_n (pc := 575) (i := 0) dL_law_575 rfl 0 rfl ?_
                          refine r_iload_n (pc := 576) (i := 3) dL_law_576 rfl 3 rfl ?_
                          refine r_iconst (pc := 577) (v := 3) dL_law_577 (by decide +kernel) ?_
                          refine r_iadd (pc := 578) dL_law_578 ?_
                          obtain ⟨c_93, h⟩ := og h
                          refine r_xald (pc := 579) rfl c_93 rfl dL_law_579 ?_
                          refine r_aload_n (pc := 580) (i := 0) dL_law_580 rfl 0 rfl ?_
                          refine r_iload_n (pc := 581) (i := 3) dL_law_581 rfl 3 rfl ?_
                          refine r_iconst (pc := 582) (v := 4) dL_law_582 (by decide +kernel) ?_
                          refine r_iadd (pc := 583) dL_law_583 ?_
                          obtain ⟨c_94, h⟩ := og h
                          refine r_xald (pc := 584) rfl c_94 rfl dL_law_584 ?_
                          refine r_aload_n (pc := 585) (i := 0) dL_law_585 rfl 0 rfl ?_
                          refine r_iload_n (pc := 586) (i := 3) dL_law_586 rfl 3 rfl ?_
                          refine r_iconst (pc := 587) (v := 5) dL_law_587 (by decide +kernel) ?_
                          refine r_iadd (pc := 588) dL_law_588 ?_
                          obtain ⟨c_95, h⟩ := og h
                          refine r_xald (pc := 589) rfl c_95 rfl dL_law_589 ?_
                          obtain ⟨q_96, hq_96, h⟩ := ob h
                          refine r_cVg (pc := 590) (Y := xX12_did) (As := [.int (eI (xs (wI (x3 + 1)).toNat)), .int (eI (xs (wI (x3 + 2)).toNat)), .int (eI (xs (wI (x3 + 3)).toNat)), .int (eI (xs (wI (x3 + 4)).toNat)), .int (eI (xs (wI (x3 + 5)).toNat))]) (rest := [.int (eI (q_90.1))]) (v := (some (.int (eI (q_96.1))))) (st1 := [.int (eI (q_96.1)), .int (eI (q_90.1))]) ck_L_law_57 (kX12_did a2 (xs (wI (x3 + 1)).toNat) (xs (wI (x3 + 2)).toNat) (xs (wI (x3 + 3)).toNat) (xs (wI (x3 + 4)).toNat) (xs (wI (x3 + 5)).toNat) q_90.2 oa2 hq_96) oa2 rfl rfl rfl rfl (Nat.le_of_ble_eq_true rfl) ⟨rfl, rfl⟩ hce rfl dL_law_590 ?_
                          refine r_icmp_eq (pc := 593) (tgt := 1792) dL_law_593 (by decide) rfl rfl (fun c_97 => ?_) (fun c_97 => ?_)
                          · replace h := (if_pos c_97).symm.trans h
                            refine r_sub (lv' := [(0, .ref c0), (1, .ref (gA G a1)), (2, .ref (gA G a2)), (3, .int (eI x3))]) [0, 1, 2, 3] rfl ?_
                            exact bL_law_b1792 hce xs lx c0 a1 a2 oa1 oa2 _ _ (fun v0 v1 v2 => ih v0 v1 v2) h
                          · replace h := (if_neg c_97).symm.trans h
                            refine r_iconst (pc := 596) (v := 0) dL_law_596 (by decide +kernel) ?_
                            cases h
                        · replace h := (if_neg c_84).symm.trans h
                          by_cases c_98 : wI ((xs (wI x3).toNat) % 64) = 10
                          · replace h := (if_pos c_98).symm.trans h
                            refine r_tsw (pc := 33) (tgt := 598) (k' := 10) (rfl.trans c_98) dL_law_33 (by decide) rfl (by decide) ?_
                            refine r_aload_n (pc := 598) (i := 1) dL_law_598 rfl 1 rfl ?_
                            refine r_aload_n (pc := 599) (i := 0) dL_law_599 rfl 0 rfl ?_
                            refine r_iload_n (pc := 600) (i := 3) dL_law_600 rfl 3 rfl ?_
                            refine r_iconst (pc := 601) (v := 1) dL_law_601 (by decide +kernel) ?_
                            refine r_iadd (pc := 602) dL_law_602 ?_
                            obtain ⟨c_99, h⟩ := og h
                            refine r_xald (pc := 603) rfl c_99 rfl dL_law_603 ?_
                            refine r_aload_n (pc := 604) (i := 0) dL_law_604 rfl 0 rfl ?_
                            refine r_iload_n (pc := 605) (i := 3) dL_law_605 rfl 3 rfl ?_
                            refine r_iconst (pc := 606) (v := 2) dL_law_606 (by decide +kernel) ?_
                            refine r_iadd (pc := 607) dL_law_607 ?_
                            obtain ⟨c_100, h⟩ := og h
                            refine r_xald (pc := 608) rfl c_100 rfl dL_law_608 ?_
                            refine r_aload_n (pc := 609) (i := 0) dL_law_609 rfl 0 rfl ?_
                            refine r_iload_n (pc := 610) (i := 3) dL_law_610 rfl 3 rfl ?_
                            refine r_iconst (pc := 611) (v := 3) dL_law_611 (by decide +kernel) ?_
                            refine r_iadd (pc := 612) dL_law_612 ?_
                            obtain ⟨c_101, h⟩ := og h
                            refine r_xald (pc := 613) rfl c_101 rfl dL_law_613 ?_
                            refine r_if_eq (pc := 614) (tgt := 621) dL_law_614 (by decide) rfl (fun c_102 => ?_) (fun c_102 => ?_)
                            · replace h := (if_pos c_102).symm.trans h
                              refine r_iconst (pc := 621) (v := 0) dL_law_621 (by decide +kernel) ?_
                              refine r_sub (lv' := [(0, .ref c0), (1, .ref (gA G a1)), (2, .ref (gA G a2)), (3, .int (eI x3))]) [0, 1, 2, 3] rfl ?_
                              exact bL_law_b622 hce xs lx c0 a1 a2 oa1 oa2 _ _ _ _ _ _ (fun v0 v1 v2 => ih v0 v1 v2) oa1 h
                            · replace h := (if_neg c_102).symm.trans h
                              refine r_iconst (pc := 617) (v := 1) dL_law_617 (by decide +kernel) ?_
                              refine r_goto (pc := 618) (tgt := 622) dL_law_618 (by decide) ?_
                              refine r_sub (lv' := [(0, .ref c0), (1, .ref (gA G a1)), (2, .ref (gA G a2)), (3, .int (eI x3))]) [0, 1, 2, 3] rfl ?_
                              exact bL_law_b622 hce xs lx c0 a1 a2 oa1 oa2 _ _ _ _ _ _ (fun v0 v1 v2 => ih v0 v1 v2) oa1 h
                          · replace h := (if_neg c_98).symm.trans h
                            by_cases c_103 : wI ((xs (wI x3).toNat) % 64) = 11
                            · replace h := (if_pos c_103).symm.trans h
                              refine r_tsw (pc := 33) (tgt := 657) (k' := 11) (rfl.trans c_103) dL_law_33 (by decide) rfl (by decide) ?_
                              refine r_aload_n (pc := 657) (i := 1) dL_law_657 rfl 1 rfl ?_
                              refine r_aload_n (pc := 658) (i := 0) dL_law_658 rfl 0 rfl ?_
                              refine r_iload_n (pc := 659) (i := 3) dL_law_659 rfl 3 rfl ?_
                              refine r_iconst (pc := 660) (v := 1) dL_law_660 (by decide +kernel) ?_
                              refine r_iadd (pc := 661) dL_law_661 ?_
                              obtain ⟨c_104, h⟩ := og h
                              refine r_xald (pc := 662) rfl c_104 rfl dL_law_662 ?_
                              refine r_aload_n (pc := 663) (i := 0) dL_law_663 rfl 0 rfl ?_
                              refine r_iload_n (pc := 664) (i := 3) dL_law_664 rfl 3 rfl ?_
                              refine r_iconst (pc := 665) (v := 2) dL_law_665 (by decide +kernel) ?_
                              refine r_iadd (pc := 666) dL_law_666 ?_
                              obtain ⟨c_105, h⟩ := og h
                              refine r_xald (pc := 667) rfl c_105 rfl dL_law_667 ?_
                              refine r_aload_n (pc := 668) (i := 0) dL_law_668 rfl 0 rfl ?_
                              refine r_iload_n (pc := 669) (i := 3) dL_law_669 rfl 3 rfl ?_
                              refine r_iconst (pc := 670) (v := 3) dL_law_670 (by decide +kernel) ?_
                              refine r_iadd (pc := 671) dL_law_671 ?_
                              obtain ⟨c_106, h⟩ := og h
                              refine r_xald (pc := 672) rfl c_106 rfl dL_law_672 ?_
                              obtain ⟨q_107, hq_107, h⟩ := ob h
                              refine r_cVg (pc := 673) (Y := xX11_clue) (As := [.int (eI (xs (wI (x3 + 1)).toNat)), .int (eI (xs (wI (x3 + 2)).toNat)), .int (eI (xs (wI (x3 + 3)).toNat))]) (rest := []) (v := (some (.int (eI q_107)))) (st1 := [.int (eI q_107)]) ck_L_law_63 (kX11_clue a1 (xs (wI (x3 + 1)).toNat) (xs (wI (x3 + 2)).toNat) (xs (wI (x3 + 3)).toNat) M oa1 hq_107) oa1 rfl rfl rfl rfl (Nat.le_of_ble_eq_true rfl) ⟨rfl, rfl⟩ hce rfl dL_law_673 ?_
                              refine r_aload_n (pc := 676) (i := 2) dL_law_676 rfl 2 rfl ?_
                              refine r_aload_n (pc := 677) (i := 0) dL_law_677 rfl 0 rfl ?_
                              refine r_iload_n (pc := 678) (i := 3) dL_law_678 rfl 3 rfl ?_
                              refine r_iconst (pc := 679) (v := 1) dL_law_679 (by decide +kernel) ?_
                              refine r_iadd (pc := 680) dL_law_680 ?_
                              obtain ⟨c_108, h⟩ := og h
                              refine r_xald (pc := 681) rfl c_108 rfl dL_law_681 ?_
                              refine r_aload_n (pc := 682) (i := 0) dL_law_682 rfl 0 rfl ?_
                              refine r_iload_n (pc := 683) (i := 3) dL_law_683 rfl 3 rfl ?_
                              refine r_iconst (pc := 684) (v := 2) dL_law_684 (by decide +kernel) ?_
                              refine r_iadd (pc := 685) dL_law_685 ?_
                              obtain ⟨c_109, h⟩ := og h
                              refine r_xald (pc := 686) rfl c_109 rfl dL_law_686 ?_
                              refine r_aload_n (pc := 687) (i := 0) dL_law_687 rfl 0 rfl ?_
                              refine r_iload_n (pc := 688) (i := 3) dL_law_688 rfl 3 rfl ?_
                              refine r_iconst (pc := 689) (v := 3) dL_law_689 (by decide +kernel) ?_
                              refine r_iadd (pc := 690) dL_law_690 ?_
                              obtain ⟨c_110, h⟩ := og h
                              refine r_xald (pc := 691) rfl c_110 rfl dL_law_691 ?_
                              obtain ⟨q_111, hq_111, h⟩ := ob h
                              refine r_cVg (pc := 692) (Y := xX12_clue) (As := [.int (eI (xs (wI (x3 + 1)).toNat)), .int (eI (xs (wI (x3 + 2)).toNat)), .int (eI (xs (wI (x3 + 3)).toNat))]) (rest := [.int (eI q_107)]) (v := (some (.int (eI (q_111.1))))) (st1 := [.int (eI (q_111.1)), .int (eI q_107)]) ck_L_law_66 (kX12_clue a2 (xs (wI (x3 + 1)).toNat) (xs (wI (x3 + 2)).toNat) (xs (wI (x3 + 3)).toNat) M oa2 hq_111) oa2 rfl rfl rfl rfl (Nat.le_of_ble_eq_true rfl) ⟨rfl, rfl⟩ hce rfl dL_law_692 ?_
                              refine r_icmp_eq (pc := 695) (tgt := 1792) dL_law_695 (by decide) rfl rfl (fun c_112 => ?_) (fun c_112 => ?_)
                              · replace h := (if_pos c_112).symm.trans h
                                refine r_sub (lv' := [(0, .ref c0), (1, .ref (gA G a1)), (2, .ref (gA G a2)), (3, .int (eI x3))]) [0, 1, 2, 3] rfl ?_
                                exact bL_law_b1792 hce xs lx c0 a1 a2 oa1 oa2 _ _ (fun v0 v1 v2 => ih v0 v1 v2) h
                              · replace h := (if_neg c_112).symm.trans h
                                refine r_iconst (pc := 698) (v := 0) dL_law_698 (by decide +kernel) ?_
                                cases h
                            · replace h := (if_neg c_103).symm.trans h
                              by_cases c_113 : wI ((xs (wI x3).toNat) % 64) = 12
                              · replace h := (if_pos c_113).symm.trans h
                                refine r_tsw (pc := 33) (tgt := 700) (k' := 12) (rfl.trans c_113) dL_law_33 (by decide) rfl (by decide) ?_
                                refine r_aload_n (pc := 700) (i := 1) dL_law_700 rfl 1 rfl ?_
                                refine r_aload_n (pc := 701) (i := 0) dL_law_701 rfl 0 rfl ?_
                                refine r_iload_n (pc := 702) (i := 3) dL_law_702 rfl 3 rfl ?_
                                refine r_iconst (pc := 703) (v := 1) dL_law_703 (by decide +kernel) ?_
                                refine r_iadd (pc := 704) dL_law_704 ?_
                                obtain ⟨c_114, h⟩ := og h
                                refine r_xald (pc := 705) rfl c_114 rfl dL_law_705 ?_
                                refine r_aload_n (pc := 706) (i := 0) dL_law_706 rfl 0 rfl ?_
                                refine r_iload_n (pc := 707) (i := 3) dL_law_707 rfl 3 rfl ?_
                                refine r_iconst (pc := 708) (v := 2) dL_law_708 (by decide +kernel) ?_
                                refine r_iadd (pc := 709) dL_law_709 ?_
                                obtain ⟨c_115, h⟩ := og h
                                refine r_xald (pc := 710) rfl c_115 rfl dL_law_710 ?_
                                refine r_aload_n (pc := 711) (i := 0) dL_law_711 rfl 0 rfl ?_
                                refine r_iload_n (pc := 712) (i := 3) dL_law_712 rfl 3 rfl ?_
                                refine r_iconst (pc := 713) (v := 3) dL_law_713 (by decide +kernel) ?_
                                refine r_iadd (pc := 714) dL_law_714 ?_
                                obtain ⟨c_116, h⟩ := og h
                                refine r_xald (pc := 715) rfl c_116 rfl dL_law_715 ?_
                                refine r_aload_n (pc := 716) (i := 0) dL_law_716 rfl 0 rfl ?_
                                refine r_iload_n (pc := 717) (i := 3) dL_law_717 rfl 3 rfl ?_
                                refine r_iconst (pc := 718) (v := 4) dL_law_718 (by decide +kernel) ?_
                                refine r_iadd (pc := 719) dL_law_719 ?_
                                obtain ⟨c_117, h⟩ := og h
                                refine r_xald (pc := 720) rfl c_117 rfl dL_law_720 ?_
                                refine r_if_eq (pc := 721) (tgt := 728) dL_law_721 (by decide) rfl (fun c_118 => ?_) (fun c_118 => ?_)
                                · replace h := (if_pos c_118).symm.trans h
                                  refine r_iconst (pc := 728) (v := 0) dL_law_728 (by decide +kernel) ?_
                                  refine r_sub (lv' := [(0, .ref c0), (1, .ref (gA G a1)), (2, .ref (gA G a2)), (3, .int (eI x3))]) [0, 1, 2, 3] rfl ?_
                                  exact bL_law_b729 hce xs lx c0 a1 a2 oa1 oa2 _ _ _ _ _ _ _ (fun v0 v1 v2 => ih v0 v1 v2) oa1 h
                                · replace h := (if_neg c_118).symm.trans h
                                  refine r_iconst (pc := 724) (v := 1) dL_law_724 (by decide +kernel) ?_
                                  refine r_goto (pc := 725) (tgt := 729) dL_law_725 (by decide) ?_
                                  refine r_sub (lv' := [(0, .ref c0), (1, .ref (gA G a1)), (2, .ref (gA G a2)), (3, .int (eI x3))]) [0, 1, 2, 3] rfl ?_
                                  exact bL_law_b729 hce xs lx c0 a1 a2 oa1 oa2 _ _ _ _ _ _ _ (fun v0 v1 v2 => ih v0 v1 v2) oa1 h
                              · replace h := (if_neg c_113).symm.trans h
                                by_cases c_119 : wI ((xs (wI x3).toNat) % 64) = 13
                                · replace h := (if_pos c_119).symm.trans h
                                  refine r_tsw (pc := 33) (tgt := 770) (k' := 13) (rfl.trans c_119) dL_law_33 (by decide) rfl (by decide) ?_
                                  refine r_aload_n (pc := 770) (i := 1) dL_law_770 rfl 1 rfl ?_
                                  refine r_aload_n (pc := 771) (i := 0) dL_law_771 rfl 0 rfl ?_
                                  refine r_iload_n (pc := 772) (i := 3) dL_law_772 rfl 3 rfl ?_
                                  refine r_iconst (pc := 773) (v := 1) dL_law_773 (by decide +kernel) ?_
                                  refine r_iadd (pc := 774) dL_law_774 ?_
                                  obtain ⟨c_120, h⟩ := og h
                                  refine r_xald (pc := 775) rfl c_120 rfl dL_law_775 ?_
                                  refine r_aload_n (pc := 776) (i := 0) dL_law_776 rfl 0 rfl ?_
                                  refine r_iload_n (pc := 777) (i := 3) dL_law_777 rfl 3 rfl ?_
                                  refine r_iconst (pc := 778) (v := 2) dL_law_778 (by decide +kernel) ?_
                                  refine r_iadd (pc := 779) dL_law_779 ?_
                                  obtain ⟨c_121, h⟩ := og h
                                  refine r_xald (pc := 780) rfl c_121 rfl dL_law_780 ?_
                                  refine r_aload_n (pc := 781) (i := 0) dL_law_781 rfl 0 rfl ?_
                                  refine r_iload_n (pc := 782) (i := 3) dL_law_782 rfl 3 rfl ?_
                                  refine r_iconst (pc := 783) (v := 3) dL_law_783 (by decide +kernel) ?_
                                  refine r_iadd (pc := 784) dL_law_784 ?_
                                  obtain ⟨c_122, h⟩ := og h
                                  refine r_xald (pc := 785) rfl c_122 rfl dL_law_785 ?_
                                  obtain ⟨q_123, hq_123, h⟩ := ob h
                                  refine r_cVg (pc := 786) (Y := xX11_aim) (As := [.int (eI (xs (wI (x3 + 1)).toNat)), .int (eI (xs (wI (x3 + 2)).toNat)), .int (eI (xs (wI (x3 + 3)).toNat))]) (rest := []) (v := (some (.int (eI (q_123.1))))) (st1 := [.int (eI (q_123.1))]) ck_L_law_72 (kX11_aim a1 (xs (wI (x3 + 1)).toNat) (xs (wI (x3 + 2)).toNat) (xs (wI (x3 + 3)).toNat) M oa1 hq_123) oa1 rfl rfl rfl rfl (Nat.le_of_ble_eq_true rfl) ⟨rfl, rfl⟩ hce rfl dL_law_786 ?_
                                  refine r_aload_n (pc := 789) (i := 2) dL_law_789 rfl 2 rfl ?_
                                  refine r_aload_n (pc := 790) (i := 0) dL_law_790 rfl 0 rfl ?_
                                  refine r_iload_n (pc := 791) (i := 3) dL_law_791 rfl 3 rfl ?_
                                  refine r_iconst (pc := 792) (v := 1) dL_law_792 (by decide +kernel) ?_
                                  refine r_iadd (pc := 793) dL_law_793 ?_
                                  obtain ⟨c_124, h⟩ := og h
                                  refine r_xald (pc := 794) rfl c_124 rfl dL_law_794 ?_
                                  refine r_aload_n (pc := 795) (i := 0) dL_law_795 rfl 0 rfl ?_
                                  refine r_iload_n (pc := 796) (i := 3) dL_law_796 rfl 3 rfl ?_
                                  refine r_iconst (pc := 797) (v := 2) dL_law_797 (by decide +kernel) ?_
                                  refine r_iadd (pc := 798) dL_law_798 ?_
                                  obtain ⟨c_125, h⟩ := og h
                                  refine r_xald (pc := 799) rfl c_125 rfl dL_law_799 ?_
                                  refine r_aload_n (pc := 800) (i := 0) dL_law_800 rfl 0 rfl ?_
                                  refine r_iload_n (pc := 801) (i := 3) dL_law_801 rfl 3 rfl ?_
                                  refine r_iconst (pc := 802) (v := 3) dL_law_802 (by decide +kernel) ?_
                                  refine r_iadd (pc := 803) dL_law_803 ?_
                                  obtain ⟨c_126, h⟩ := og h
                                  refine r_xald (pc := 804) rfl c_126 rfl dL_law_804 ?_
                                  obtain ⟨q_127, hq_127, h⟩ := ob h
                                  refine r_cVg (pc := 805) (Y := xX12_aim) (As := [.int (eI (xs (wI (x3 + 1)).toNat)), .int (eI (xs (wI (x3 + 2)).toNat)), .int (eI (xs (wI (x3 + 3)).toNat))]) (rest := [.int (eI (q_123.1))]) (v := (some (.int (eI (q_127.1))))) (st1 := [.int (eI (q_127.1)), .int (eI (q_123.1))]) ck_L_law_75 (kX12_aim a2 (xs (wI (x3 + 1)).toNat) (xs (wI (x3 + 2)).toNat) (xs (wI (x3 + 3)).toNat) q_123.2 oa2 hq_127) oa2 rfl rfl rfl rfl (Nat.le_of_ble_eq_true rfl) ⟨rfl, rfl⟩ hce rfl dL_law_805 ?_
                                  refine r_icmp_eq (pc := 808) (tgt := 1792) dL_law_808 (by decide) rfl rfl (fun c_128 => ?_) (fun c_128 => ?_)
                                  · replace h := (if_pos c_128).symm.trans h
                                    refine r_sub (lv' := [(0, .ref c0), (1, .ref (gA G a1)), (2, .ref (gA G a2)), (3, .int (eI x3))]) [0, 1, 2, 3] rfl ?_
                                    exact bL_law_b1792 hce xs lx c0 a1 a2 oa1 oa2 _ _ (fun v0 v1 v2 => ih v0 v1 v2) h
                                  · replace h := (if_neg c_128).symm.trans h
                                    refine r_iconst (pc := 811) (v := 0) dL_law_811 (by decide +kernel) ?_
                                    cases h
                                · replace h := (if_neg c_119).symm.trans h
                                  by_cases c_129 : wI ((xs (wI x3).toNat) % 64) = 14
                                  · replace h := (if_pos c_129).symm.trans h
                                    refine r_tsw (pc := 33) (tgt := 813) (k' := 14) (rfl.trans c_129) dL_law_33 (by decide) rfl (by decide) ?_
                                    refine r_aload_n (pc := 813) (i := 1) dL_law_813 rfl 1 rfl ?_
                                    refine r_aload_n (pc := 814) (i := 0) dL_law_814 rfl 0 rfl ?_
                                    refine r_iload_n (pc := 815) (i := 3) dL_law_815 rfl 3 rfl ?_
                                    refine r_iconst (pc := 816) (v := 1) dL_law_816 (by decide +kernel) ?_
                                    refine r_iadd (pc := 817) dL_law_817 ?_
                                    obtain ⟨c_130, h⟩ := og h
                                    refine r_xald (pc := 818) rfl c_130 rfl dL_law_818 ?_
                                    refine r_aload_n (pc := 819) (i := 0) dL_law_819 rfl 0 rfl ?_
                                    refine r_iload_n (pc := 820) (i := 3) dL_law_820 rfl 3 rfl ?_
                                    refine r_iconst (pc := 821) (v := 2) dL_law_821 (by decide +kernel) ?_
                                    refine r_iadd (pc := 822) dL_law_822 ?_
                                    obtain ⟨c_131, h⟩ := og h
                                    refine r_xald (pc := 823) rfl c_131 rfl dL_law_823 ?_
                                    refine r_aload_n (pc := 824) (i := 0) dL_law_824 rfl 0 rfl ?_
                                    refine r_iload_n (pc := 825) (i := 3) dL_law_825 rfl 3 rfl ?_
                                    refine r_iconst (pc := 826) (v := 3) dL_law_826 (by decide +kernel) ?_
                                    refine r_iadd (pc := 827) dL_law_827 ?_
                                    obtain ⟨c_132, h⟩ := og h
                                    refine r_xald (pc := 828) rfl c_132 rfl dL_law_828 ?_
                                    refine r_aload_n (pc := 829) (i := 0) dL_law_829 rfl 0 rfl ?_
                                    refine r_iload_n (pc := 830) (i := 3) dL_law_830 rfl 3 rfl ?_
                                    refine r_iconst (pc := 831) (v := 4) dL_law_831 (by decide +kernel) ?_
                                    refine r_iadd (pc := 832) dL_law_832 ?_
                                    obtain ⟨c_133, h⟩ := og h
                                    refine r_xald (pc := 833) rfl c_133 rfl dL_law_833 ?_
                                    refine r_if_eq (pc := 834) (tgt := 841) dL_law_834 (by decide) rfl (fun c_134 => ?_) (fun c_134 => ?_)
                                    · replace h := (if_pos c_134).symm.trans h
                                      refine r_iconst (pc := 841) (v := 0) dL_law_841 (by decide +kernel) ?_
                                      refine r_sub (lv' := [(0, .ref c0), (1, .ref (gA G a1)), (2, .ref (gA G a2)), (3, .int (eI x3))]) [0, 1, 2, 3] rfl ?_
                                      exact bL_law_b842 hce xs lx c0 a1 a2 oa1 oa2 _ _ _ _ _ _ _ (fun v0 v1 v2 => ih v0 v1 v2) oa1 h
                                    · replace h := (if_neg c_134).symm.trans h
                                      refine r_iconst (pc := 837) (v := 1) dL_law_837 (by decide +kernel) ?_
                                      refine r_goto (pc := 838) (tgt := 842) dL_law_838 (by decide) ?_
                                      refine r_sub (lv' := [(0, .ref c0), (1, .ref (gA G a1)), (2, .ref (gA G a2)), (3, .int (eI x3))]) [0, 1, 2, 3] rfl ?_
                                      exact bL_law_b842 hce xs lx c0 a1 a2 oa1 oa2 _ _ _ _ _ _ _ (fun v0 v1 v2 => ih v0 v1 v2) oa1 h
                                  · replace h := (if_neg c_129).symm.trans h
                                    by_cases c_135 : wI ((xs (wI x3).toNat) % 64) = 15
                                    · replace h := (if_pos c_135).symm.trans h
                                      refine r_tsw (pc := 33) (tgt := 883) (k' := 15) (rfl.trans c_135) dL_law_33 (by decide) rfl (by decide) ?_
                                      refine r_aload_n (pc := 883) (i := 1) dL_law_883 rfl 1 rfl ?_
                                      refine r_aload_n (pc := 884) (i := 0) dL_law_884 rfl 0 rfl ?_
                                      refine r_iload_n (pc := 885) (i := 3) dL_law_885 rfl 3 rfl ?_
                                      refine r_iconst (pc := 886) (v := 1) dL_law_886 (by decide +kernel) ?_
                                      refine r_iadd (pc := 887) dL_law_887 ?_
                                      obtain ⟨c_136, h⟩ := og h
                                      refine r_xald (pc := 888) rfl c_136 rfl dL_law_888 ?_
                                      refine r_aload_n (pc := 889) (i := 0) dL_law_889 rfl 0 rfl ?_
                                      refine r_iload_n (pc := 890) (i := 3) dL_law_890 rfl 3 rfl ?_
                                      refine r_iconst (pc := 891) (v := 2) dL_law_891 (by decide +kernel) ?_
                                      refine r_iadd (pc := 892) dL_law_892 ?_
                                      obtain ⟨c_137, h⟩ := og h
                                      refine r_xald (pc := 893) rfl c_137 rfl dL_law_893 ?_
                                      refine r_aload_n (pc := 894) (i := 0) dL_law_894 rfl 0 rfl ?_
                                      refine r_iload_n (pc := 895) (i := 3) dL_law_895 rfl 3 rfl ?_
                                      refine r_iconst (pc := 896) (v := 3) dL_law_896 (by decide +kernel) ?_
                                      refine r_iadd (pc := 897) dL_law_897 ?_
                                      obtain ⟨c_138, h⟩ := og h
                                      refine r_xald (pc := 898) rfl c_138 rfl dL_law_898 ?_
                                      refine r_aload_n (pc := 899) (i := 0) dL_law_899 rfl 0 rfl ?_
                                      refine r_iload_n (pc := 900) (i := 3) dL_law_900 rfl 3 rfl ?_
                                      refine r_iconst (pc := 901) (v := 4) dL_law_901 (by decide +kernel) ?_
                                      refine r_iadd (pc := 902) dL_law_902 ?_
                                      obtain ⟨c_139, h⟩ := og h
                                      refine r_xald (pc := 903) rfl c_139 rfl dL_law_903 ?_
                                      refine r_aload_n (pc := 904) (i := 0) dL_law_904 rfl 0 rfl ?_
                                      refine r_iload_n (pc := 905) (i := 3) dL_law_905 rfl 3 rfl ?_
                                      refine r_iconst (pc := 906) (v := 5) dL_law_906 (by decide +kernel) ?_
                                      refine r_iadd (pc := 907) dL_law_907 ?_
                                      obtain ⟨c_140, h⟩ := og h
                                      refine r_xald (pc := 908) rfl c_140 rfl dL_law_908 ?_
                                      refine r_if_eq (pc := 909) (tgt := 916) dL_law_909 (by decide) rfl (fun c_141 => ?_) (fun c_141 => ?_)
                                      · replace h := (if_pos c_141).symm.trans h
                                        refine r_iconst (pc := 916) (v := 0) dL_law_916 (by decide +kernel) ?_
                                        refine r_sub (lv' := [(0, .ref c0), (1, .ref (gA G a1)), (2, .ref (gA G a2)), (3, .int (eI x3))]) [0, 1, 2, 3] rfl ?_
                                        exact bL_law_b917 hce xs lx c0 a1 a2 oa1 oa2 _ _ _ _ _ _ _ _ (fun v0 v1 v2 => ih v0 v1 v2) oa1 h
                                      · replace h := (if_neg c_141).symm.trans h
                                        refine r_iconst (pc := 912) (v := 1) dL_law_912 (by decide +kernel) ?_
                                        refine r_goto (pc := 913) (tgt := 917) dL_law_913 (by decide) ?_
                                        refine r_sub (lv' := [(0, .ref c0), (1, .ref (gA G a1)), (2, .ref (gA G a2)), (3, .int (eI x3))]) [0, 1, 2, 3] rfl ?_
                                        exact bL_law_b917 hce xs lx c0 a1 a2 oa1 oa2 _ _ _ _ _ _ _ _ (fun v0 v1 v2 => ih v0 v1 v2) oa1 h
                                    · replace h := (if_neg c_135).symm.trans h
                                      by_cases c_142 : wI ((xs (wI x3).toNat) % 64) = 16
                                      · replace h := (if_pos c_142).symm.trans h
                                        refine r_tsw (pc := 33) (tgt := 963) (k' := 16) (rfl.trans c_142) dL_law_33 (by decide) rfl (by decide) ?_
                                        refine r_aload_n (pc := 963) (i := 1) dL_law_963 rfl 1 rfl ?_
                                        refine r_aload_n (pc := 964) (i := 0) dL_law_964 rfl 0 rfl ?_
                                        refine r_iload_n (pc := 965) (i := 3) dL_law_965 rfl 3 rfl ?_
                                        refine r_iconst (pc := 966) (v := 1) dL_law_966 (by decide +kernel) ?_
                                        refine r_iadd (pc := 967) dL_law_967 ?_
                                        obtain ⟨c_143, h⟩ := og h
                                        refine r_xald (pc := 968) rfl c_143 rfl dL_law_968 ?_
                                        refine r_aload_n (pc := 969) (i := 0) dL_law_969 rfl 0 rfl ?_
                                        refine r_iload_n (pc := 970) (i := 3) dL_law_970 rfl 3 rfl ?_
                                        refine r_iconst (pc := 971) (v := 2) dL_law_971 (by decide +kernel) ?_
                                        refine r_iadd (pc := 972) dL_law_972 ?_
                                        obtain ⟨c_144, h⟩ := og h
                                        refine r_xald (pc := 973) rfl c_144 rfl dL_law_973 ?_
                                        refine r_if_eq (pc := 974) (tgt := 981) dL_law_974 (by decide) rfl (fun c_145 => ?_) (fun c_145 => ?_)
                                        · replace h := (if_pos c_145).symm.trans h
                                          refine r_iconst (pc := 981) (v := 0) dL_law_981 (by decide +kernel) ?_
                                          refine r_sub (lv' := [(0, .ref c0), (1, .ref (gA G a1)), (2, .ref (gA G a2)), (3, .int (eI x3))]) [0, 1, 2, 3] rfl ?_
                                          exact bL_law_b982 hce xs lx c0 a1 a2 oa1 oa2 _ _ _ _ _ (fun v0 v1 v2 => ih v0 v1 v2) oa1 h
                                        · replace h := (if_neg c_145).symm.trans h
                                          refine r_iconst (pc := 977) (v := 1) dL_law_977 (by decide +kernel) ?_
                                          refine r_goto (pc := 978) (tgt := 982) dL_law_978 (by decide) ?_
                                          refine r_sub (lv' := [(0, .ref c0), (1, .ref (gA G a1)), (2, .ref (gA G a2)), (3, .int (eI x3))]) [0, 1, 2, 3] rfl ?_
                                          exact bL_law_b982 hce xs lx c0 a1 a2 oa1 oa2 _ _ _ _ _ (fun v0 v1 v2 => ih v0 v1 v2) oa1 h
                                      · replace h := (if_neg c_142).symm.trans h
                                        by_cases c_146 : wI ((xs (wI x3).toNat) % 64) = 17
                                        · replace h := (if_pos c_146).symm.trans h
                                          refine r_tsw (pc := 33) (tgt := 1013) (k' := 17) (rfl.trans c_146) dL_law_33 (by decide) rfl (by decide) ?_
                                          refine r_aload_n (pc := 1013) (i := 1) dL_law_1013 rfl 1 rfl ?_
                                          refine r_aload_n (pc := 1014) (i := 0) dL_law_1014 rfl 0 rfl ?_
                                          refine r_iload_n (pc := 1015) (i := 3) dL_law_1015 rfl 3 rfl ?_
                                          refine r_iconst (pc := 1016) (v := 1) dL_law_1016 (by decide +kernel) ?_
                                          refine r_iadd (pc := 1017) dL_law_1017 ?_
                                          obtain ⟨c_147, h⟩ := og h
                                          refine r_xald (pc := 1018) rfl c_147 rfl dL_law_1018 ?_
                                          refine r_aload_n (pc := 1019) (i := 0) dL_law_1019 rfl 0 rfl ?_
                                          refine r_iload_n (pc := 1020) (i := 3) dL_law_1020 rfl 3 rfl ?_
                                          refine r_iconst (pc := 1021) (v := 2) dL_law_1021 (by decide +kernel) ?_
                                          refine r_iadd (pc := 1022) dL_law_1022 ?_
                                          obtain ⟨c_148, h⟩ := og h
                                          refine r_xald (pc := 1023) rfl c_148 rfl dL_law_1023 ?_
                                          refine r_aload_n (pc := 1024) (i := 0) dL_law_1024 rfl 0 rfl ?_
                                          refine r_iload_n (pc := 1025) (i := 3) dL_law_1025 rfl 3 rfl ?_
                                          refine r_iconst (pc := 1026) (v := 3) dL_law_1026 (by decide +kernel) ?_
                                          refine r_iadd (pc := 1027) dL_law_1027 ?_
                                          obtain ⟨c_149, h⟩ := og h
                                          refine r_xald (pc := 1028) rfl c_149 rfl dL_law_1028 ?_
                                          refine r_aload_n (pc := 1029) (i := 0) dL_law_1029 rfl 0 rfl ?_
                                          refine r_iload_n (pc := 1030) (i := 3) dL_law_1030 rfl 3 rfl ?_
                                          refine r_iconst (pc := 1031) (v := 4) dL_law_1031 (by decide +kernel) ?_
                                          refine r_iadd (pc := 1032) dL_law_1032 ?_
                                          obtain ⟨c_150, h⟩ := og h
                                          refine r_xald (pc := 1033) rfl c_150 rfl dL_law_1033 ?_
                                          obtain ⟨q_151, hq_151, h⟩ := ob h
                                          refine r_cVg (pc := 1034) (Y := xX11_lifts) (As := [.int (eI (xs (wI (x3 + 1)).toNat)), .int (eI (xs (wI (x3 + 2)).toNat)), .int (eI (xs (wI (x3 + 3)).toNat)), .int (eI (xs (wI (x3 + 4)).toNat))]) (rest := []) (v := (some (.int (eI (q_151.1))))) (st1 := [.int (eI (q_151.1))]) ck_L_law_90 (kX11_lifts a1 (xs (wI (x3 + 1)).toNat) (xs (wI (x3 + 2)).toNat) (xs (wI (x3 + 3)).toNat) (xs (wI (x3 + 4)).toNat) M oa1 hq_151) oa1 rfl rfl rfl rfl (Nat.le_of_ble_eq_true rfl) ⟨rfl, rfl⟩ hce rfl dL_law_1034 ?_
                                          refine r_aload_n (pc := 1037) (i := 2) dL_law_1037 rfl 2 rfl ?_
                                          refine r_aload_n (pc := 1038) (i := 0) dL_law_1038 rfl 0 rfl ?_
                                          refine r_iload_n (pc := 1039) (i := 3) dL_law_1039 rfl 3 rfl ?_
                                          refine r_iconst (pc := 1040) (v := 1) dL_law_1040 (by decide +kernel) ?_
                                          refine r_iadd (pc := 1041) dL_law_1041 ?_
                                          obtain ⟨c_152, h⟩ := og h
                                          refine r_xald (pc := 1042) rfl c_152 rfl dL_law_1042 ?_
                                          refine r_aload_n (pc := 1043) (i := 0) dL_law_1043 rfl 0 rfl ?_
                                          refine r_iload_n (pc := 1044) (i := 3) dL_law_1044 rfl 3 rfl ?_
                                          refine r_iconst (pc := 1045) (v := 2) dL_law_1045 (by decide +kernel) ?_
                                          refine r_iadd (pc := 1046) dL_law_1046 ?_
                                          obtain ⟨c_153, h⟩ := og h
                                          refine r_xald (pc := 1047) rfl c_153 rfl dL_law_1047 ?_
                                          refine r_aload_n (pc := 1048) (i := 0) dL_law_1048 rfl 0 rfl ?_
                                          refine r_iload_n (pc := 1049) (i := 3) dL_law_1049 rfl 3 rfl ?_
                                          refine r_iconst (pc := 1050) (v := 3) dL_law_1050 (by decide +kernel) ?_
                                          refine r_iadd (pc := 1051) dL_law_1051 ?_
                                          obtain ⟨c_154, h⟩ := og h
                                          refine r_xald (pc := 1052) rfl c_154 rfl dL_law_1052 ?_
                                          refine r_aload_n (pc := 1053) (i := 0) dL_law_1053 rfl 0 rfl ?_
                                          refine r_iload_n (pc := 1054) (i := 3) dL_law_1054 rfl 3 rfl ?_
                                          refine r_iconst (pc := 1055) (v := 4) dL_law_1055 (by decide +kernel) ?_
                                          refine r_iadd (pc := 1056) dL_law_1056 ?_
                                          obtain ⟨c_155, h⟩ := og h
                                          refine r_xald (pc := 1057) rfl c_155 rfl dL_law_1057 ?_
                                          obtain ⟨q_156, hq_156, h⟩ := ob h
                                          refine r_cVg (pc := 1058) (Y := xX12_lifts) (As := [.int (eI (xs (wI (x3 + 1)).toNat)), .int (eI (xs (wI (x3 + 2)).toNat)), .int (eI (xs (wI (x3 + 3)).toNat)), .int (eI (xs (wI (x3 + 4)).toNat))]) (rest := [.int (eI (q_151.1))]) (v := (some (.int (eI (q_156.1))))) (st1 := [.int (eI (q_156.1)), .int (eI (q_151.1))]) ck_L_law_93 (kX12_lifts a2 (xs (wI (x3 + 1)).toNat) (xs (wI (x3 + 2)).toNat) (xs (wI (x3 + 3)).toNat) (xs (wI (x3 + 4)).toNat) q_151.2 oa2 hq_156) oa2 rfl rfl rfl rfl (Nat.le_of_ble_eq_true rfl) ⟨rfl, rfl⟩ hce rfl dL_law_1058 ?_
                                          refine r_icmp_eq (pc := 1061) (tgt := 1792) dL_law_1061 (by decide) rfl rfl (fun c_157 => ?_) (fun c_157 => ?_)
                                          · replace h := (if_pos c_157).symm.trans h
                                            refine r_sub (lv' := [(0, .ref c0), (1, .ref (gA G a1)), (2, .ref (gA G a2)), (3, .int (eI x3))]) [0, 1, 2, 3] rfl ?_
                                            exact bL_law_b1792 hce xs lx c0 a1 a2 oa1 oa2 _ _ (fun v0 v1 v2 => ih v0 v1 v2) h
                                          · replace h := (if_neg c_157).symm.trans h
                                            refine r_iconst (pc := 1064) (v := 0) dL_law_1064 (by decide +kernel) ?_
                                            cases h
                                        · replace h := (if_neg c_146).symm.trans h
                                          by_cases c_158 : wI ((xs (wI x3).toNat) % 64) = 18
                                          · replace h := (if_pos c_158).symm.trans h
                                            refine r_tsw (pc := 33) (tgt := 1066) (k' := 18) (rfl.trans c_158) dL_law_33 (by decide) rfl (by decide) ?_
                                            refine r_aload_n (pc := 1066) (i := 1) dL_law_1066 rfl 1 rfl ?_
                                            refine r_aload_n (pc := 1067) (i := 0) dL_law_1067 rfl 0 rfl ?_
                                            refine r_iload_n (pc := 1068) (i := 3) dL_law_1068 rfl 3 rfl ?_
                                            refine r_iconst (pc := 1069) (v := 1) dL_law_1069 (by decide +kernel) ?_
                                            refine r_iadd (pc := 1070) dL_law_1070 ?_
                                            obtain ⟨c_159, h⟩ := og h
                                            refine r_xald (pc := 1071) rfl c_159 rfl dL_law_1071 ?_
                                            obtain ⟨q_160, hq_160, h⟩ := ob h
                                            refine r_cVg (pc := 1072) (Y := xX11_fair) (As := [.int (eI (xs (wI (x3 + 1)).toNat))]) (rest := []) (v := (some (.int (eI (q_160.1))))) (st1 := [.int (eI (q_160.1))]) ck_L_law_94 (kX11_fair a1 (xs (wI (x3 + 1)).toNat) M oa1 hq_160) oa1 rfl rfl rfl rfl (Nat.le_of_ble_eq_true rfl) ⟨rfl, rfl⟩ hce rfl dL_law_1072 ?_
                                            refine r_aload_n (pc := 1075) (i := 2) dL_law_1075 rfl 2 rfl ?_
                                            refine r_aload_n (pc := 1076) (i := 0) dL_law_1076 rfl 0 rfl ?_
                                            refine r_iload_n (pc := 1077) (i := 3) dL_law_1077 rfl 3 rfl ?_
                                            refine r_iconst (pc := 1078) (v := 1) dL_law_1078 (by decide +kernel) ?_
                                            refine r_iadd (pc := 1079) dL_law_1079 ?_
                                            obtain ⟨c_161, h⟩ := og h
                                            refine r_xald (pc := 1080) rfl c_161 rfl dL_law_1080 ?_
                                            obtain ⟨q_162, hq_162, h⟩ := ob h
                                            refine r_cVg (pc := 1081) (Y := xX12_fair) (As := [.int (eI (xs (wI (x3 + 1)).toNat))]) (rest := [.int (eI (q_160.1))]) (v := (some (.int (eI (q_162.1))))) (st1 := [.int (eI (q_162.1)), .int (eI (q_160.1))]) ck_L_law_97 (kX12_fair a2 (xs (wI (x3 + 1)).toNat) q_160.2 oa2 hq_162) oa2 rfl rfl rfl rfl (Nat.le_of_ble_eq_true rfl) ⟨rfl, rfl⟩ hce rfl dL_law_1081 ?_
                                            refine r_icmp_eq (pc := 1084) (tgt := 1792) dL_law_1084 (by decide) rfl rfl (fun c_163 => ?_) (fun c_163 => ?_)
                                            · replace h := (if_pos c_163).symm.trans h
                                              refine r_sub (lv' := [(0, .ref c0), (1, .ref (gA G a1)), (2, .ref (gA G a2)), (3, .int (eI x3))]) [0, 1, 2, 3] rfl ?_
                                              exact bL_law_b1792 hce xs lx c0 a1 a2 oa1 oa2 _ _ (fun v0 v1 v2 => ih v0 v1 v2) h
                                            · replace h := (if_neg c_163).symm.trans h
                                              refine r_iconst (pc := 1087) (v := 0) dL_law_1087 (by decide +kernel) ?_
                                              cases h
                                          · replace h := (if_neg c_158).symm.trans h
                                            by_cases c_164 : wI ((xs (wI x3).toNat) % 64) = 19
                                            · replace h := (if_pos c_164).symm.trans h
                                              refine r_tsw (pc := 33) (tgt := 1089) (k' := 19) (rfl.trans c_164) dL_law_33 (by decide) rfl (by decide) ?_
                                              refine r_aload_n (pc := 1089) (i := 1) dL_law_1089 rfl 1 rfl ?_
                                              refine r_aload_n (pc := 1090) (i := 0) dL_law_1090 rfl 0 rfl ?_
                                              refine r_iload_n (pc := 1091) (i := 3) dL_law_1091 rfl 3 rfl ?_
                                              refine r_iconst (pc := 1092) (v := 1) dL_law_1092 (by decide +kernel) ?_
                                              refine r_iadd (pc := 1093) dL_law_1093 ?_
                                              obtain ⟨c_165, h⟩ := og h
                                              refine r_xald (pc := 1094) rfl c_165 rfl dL_law_1094 ?_
                                              obtain ⟨q_166, hq_166, h⟩ := ob h
                                              refine r_cVg (pc := 1095) (Y := xX11_thick) (As := [.int (eI (xs (wI (x3 + 1)).toNat))]) (rest := []) (v := (some (.int (eI (q_166.1))))) (st1 := [.int (eI (q_166.1))]) ck_L_law_98 (kX11_thick a1 (xs (wI (x3 + 1)).toNat) M oa1 hq_166) oa1 rfl rfl rfl rfl (Nat.le_of_ble_eq_true rfl) ⟨rfl, rfl⟩ hce rfl dL_law_1095 ?_
                                              refine r_aload_n (pc := 1098) (i := 2) dL_law_1098 rfl 2 rfl ?_
                                              refine r_aload_n (pc := 1099) (i := 0) dL_law_1099 rfl 0 rfl ?_
                                              refine r_iload_n (pc := 1100) (i := 3) dL_law_1100 rfl 3 rfl ?_
                                              refine r_iconst (pc := 1101) (v := 1) dL_law_1101 (by decide +kernel) ?_
                                              refine r_iadd (pc := 1102) dL_law_1102 ?_
                                              obtain ⟨c_167, h⟩ := og h
                                              refine r_xald (pc := 1103) rfl c_167 rfl dL_law_1103 ?_
                                              obtain ⟨q_168, hq_168, h⟩ := ob h
                                              refine r_cVg (pc := 1104) (Y := xX12_thick) (As := [.int (eI (xs (wI (x3 + 1)).toNat))]) (rest := [.int (eI (q_166.1))]) (v := (some (.int (eI (q_168.1))))) (st1 := [.int (eI (q_168.1)), .int (eI (q_166.1))]) ck_L_law_101 (kX12_thick a2 (xs (wI (x3 + 1)).toNat) q_166.2 oa2 hq_168) oa2 rfl rfl rfl rfl (Nat.le_of_ble_eq_true rfl) ⟨rfl, rfl⟩ hce rfl dL_law_1104 ?_
                                              refine r_icmp_eq (pc := 1107) (tgt := 1792) dL_law_1107 (by decide) rfl rfl (fun c_169 => ?_) (fun c_169 => ?_)
                                              · replace h := (if_pos c_169).symm.trans h
                                                refine r_sub (lv' := [(0, .ref c0), (1, .ref (gA G a1)), (2, .ref (gA G a2)), (3, .int (eI x3))]) [0, 1, 2, 3] rfl ?_
                                                exact bL_law_b1792 hce xs lx c0 a1 a2 oa1 oa2 _ _ (fun v0 v1 v2 => ih v0 v1 v2) h
                                              · replace h := (if_neg c_169).symm.trans h
                                                refine r_iconst (pc := 1110) (v := 0) dL_law_1110 (by decide +kernel) ?_
                                                cases h
                                            · replace h := (if_neg c_164).symm.trans h
                                              by_cases c_170 : wI ((xs (wI x3).toNat) % 64) = 20
                                              · replace h := (if_pos c_170).symm.trans h
                                                refine r_tsw (pc := 33) (tgt := 1112) (k' := 20) (rfl.trans c_170) dL_law_33 (by decide) rfl (by decide) ?_
                                                refine r_aload_n (pc := 1112) (i := 1) dL_law_1112 rfl 1 rfl ?_
                                                refine r_aload_n (pc := 1113) (i := 0) dL_law_1113 rfl 0 rfl ?_
                                                refine r_iload_n (pc := 1114) (i := 3) dL_law_1114 rfl 3 rfl ?_
                                                refine r_iconst (pc := 1115) (v := 1) dL_law_1115 (by decide +kernel) ?_
                                                refine r_iadd (pc := 1116) dL_law_1116 ?_
                                                obtain ⟨c_171, h⟩ := og h
                                                refine r_xald (pc := 1117) rfl c_171 rfl dL_law_1117 ?_
                                                refine r_aload_n (pc := 1118) (i := 0) dL_law_1118 rfl 0 rfl ?_
                                                refine r_iload_n (pc := 1119) (i := 3) dL_law_1119 rfl 3 rfl ?_
                                                refine r_iconst (pc := 1120) (v := 2) dL_law_1120 (by decide +kernel) ?_
                                                refine r_iadd (pc := 1121) dL_law_1121 ?_
                                                obtain ⟨c_172, h⟩ := og h
                                                refine r_xald (pc := 1122) rfl c_172 rfl dL_law_1122 ?_
                                                refine r_aload_n (pc := 1123) (i := 0) dL_law_1123 rfl 0 rfl ?_
                                                refine r_iload_n (pc := 1124) (i := 3) dL_law_1124 rfl 3 rfl ?_
                                                refine r_iconst (pc := 1125) (v := 3) dL_law_1125 (by decide +kernel) ?_
                                                refine r_iadd (pc := 1126) dL_law_1126 ?_
                                                obtain ⟨c_173, h⟩ := og h
                                                refine r_xald (pc := 1127) rfl c_173 rfl dL_law_1127 ?_
                                                refine r_aload_n (pc := 1128) (i := 0) dL_law_1128 rfl 0 rfl ?_
                                                refine r_iload_n (pc := 1129) (i := 3) dL_law_1129 rfl 3 rfl ?_
                                                refine r_iconst (pc := 1130) (v := 4) dL_law_1130 (by decide +kernel) ?_
                                                refine r_iadd (pc := 1131) dL_law_1131 ?_
                                                obtain ⟨c_174, h⟩ := og h
                                                refine r_xald (pc := 1132) rfl c_174 rfl dL_law_1132 ?_
                                                obtain ⟨q_175, hq_175, h⟩ := ob h
                                                refine r_cVg (pc := 1133) (Y := xX11_cell) (As := [.int (eI (xs (wI (x3 + 1)).toNat)), .int (eI (xs (wI (x3 + 2)).toNat)), .int (eI (xs (wI (x3 + 3)).toNat)), .int (eI (xs (wI (x3 + 4)).toNat))]) (rest := []) (v := (some (.int (eI q_175)))) (st1 := [.int (eI q_175)]) ck_L_law_102 (kX11_cell a1 (xs (wI (x3 + 1)).toNat) (xs (wI (x3 + 2)).toNat) (xs (wI (x3 + 3)).toNat) (xs (wI (x3 + 4)).toNat) M oa1 hq_175) oa1 rfl rfl rfl rfl (Nat.le_of_ble_eq_true rfl) ⟨rfl, rfl⟩ hce rfl dL_law_1133 ?_
                                                refine r_aload_n (pc := 1136) (i := 2) dL_law_1136 rfl 2 rfl ?_
                                                refine r_aload_n (pc := 1137) (i := 0) dL_law_1137 rfl 0 rfl ?_
                                                refine r_iload_n (pc := 1138) (i := 3) dL_law_1138 rfl 3 rfl ?_
                                                refine r_iconst (pc := 1139) (v := 1) dL_law_1139 (by decide +kernel) ?_
                                                refine r_iadd (pc := 1140) dL_law_1140 ?_
                                                obtain ⟨c_176, h⟩ := og h
                                                refine r_xald (pc := 1141) rfl c_176 rfl dL_law_1141 ?_
                                                refine r_aload_n (pc := 1142) (i := 0) dL_law_1142 rfl 0 rfl ?_
                                                refine r_iload_n (pc := 1143) (i := 3) dL_law_1143 rfl 3 rfl ?_
                                                refine r_iconst (pc := 1144) (v := 2) dL_law_1144 (by decide +kernel) ?_
                                                refine r_iadd (pc := 1145) dL_law_1145 ?_
                                                obtain ⟨c_177, h⟩ := og h
                                                refine r_xald (pc := 1146) rfl c_177 rfl dL_law_1146 ?_
                                                refine r_aload_n (pc := 1147) (i := 0) dL_law_1147 rfl 0 rfl ?_
                                                refine r_iload_n (pc := 1148) (i := 3) dL_law_1148 rfl 3 rfl ?_
                                                refine r_iconst (pc := 1149) (v := 3) dL_law_1149 (by decide +kernel) ?_
                                                refine r_iadd (pc := 1150) dL_law_1150 ?_
                                                obtain ⟨c_178, h⟩ := og h
                                                refine r_xald (pc := 1151) rfl c_178 rfl dL_law_1151 ?_
                                                refine r_aload_n (pc := 1152) (i := 0) dL_law_1152 rfl 0 rfl ?_
                                                refine r_iload_n (pc := 1153) (i := 3) dL_law_1153 rfl 3 rfl ?_
                                                refine r_iconst (pc := 1154) (v := 4) dL_law_1154 (by decide +kernel) ?_
                                                refine r_iadd (pc := 1155) dL_law_1155 ?_
                                                obtain ⟨c_179, h⟩ := og h
                                                refine r_xald (pc := 1156) rfl c_179 rfl dL_law_1156 ?_
                                                obtain ⟨q_180, hq_180, h⟩ := ob h
                                                refine r_cVg (pc := 1157) (Y := xX12_cell) (As := [.int (eI (xs (wI (x3 + 1)).toNat)), .int (eI (xs (wI (x3 + 2)).toNat)), .int (eI (xs (wI (x3 + 3)).toNat)), .int (eI (xs (wI (x3 + 4)).toNat))]) (rest := [.int (eI q_175)]) (v := (some (.int (eI (q_180.1))))) (st1 := [.int (eI (q_180.1)), .int (eI q_175)]) ck_L_law_105 (kX12_cell a2 (xs (wI (x3 + 1)).toNat) (xs (wI (x3 + 2)).toNat) (xs (wI (x3 + 3)).toNat) (xs (wI (x3 + 4)).toNat) M oa2 hq_180) oa2 rfl rfl rfl rfl (Nat.le_of_ble_eq_true rfl) ⟨rfl, rfl⟩ hce rfl dL_law_1157 ?_
                                                refine r_icmp_eq (pc := 1160) (tgt := 1792) dL_law_1160 (by decide) rfl rfl (fun c_181 => ?_) (fun c_181 => ?_)
                                                · replace h := (if_pos c_181).symm.trans h
                                                  refine r_sub (lv' := [(0, .ref c0), (1, .ref (gA G a1)), (2, .ref (gA G a2)), (3, .int (eI x3))]) [0, 1, 2, 3] rfl ?_
                                                  exact bL_law_b1792 hce xs lx c0 a1 a2 oa1 oa2 _ _ (fun v0 v1 v2 => ih v0 v1 v2) h
                                                · replace h := (if_neg c_181).symm.trans h
                                                  refine r_iconst (pc := 1163) (v := 0) dL_law_1163 (by decide +kernel) ?_
                                                  cases h
                                              · replace h := (if_neg c_170).symm.trans h
                                                by_cases c_182 : wI ((xs (wI x3).toNat) % 64) = 21
                                                · replace h := (if_pos c_182).symm.trans h
                                                  refine r_tsw (pc := 33) (tgt := 1165) (k' := 21) (rfl.trans c_182) dL_law_33 (by decide) rfl (by decide) ?_
                                                  refine r_aload_n (pc := 1165) (i := 1) dL_law_1165 rfl 1 rfl ?_
                                                  refine r_aload_n (pc := 1166) (i := 0) dL_law_1166 rfl 0 rfl ?_
                                                  refine r_iload_n (pc := 1167) (i := 3) dL_law_1167 rfl 3 rfl ?_
                                                  refine r_iconst (pc := 1168) (v := 1) dL_law_1168 (by decide +kernel) ?_
                                                  refine r_iadd (pc := 1169) dL_law_1169 ?_
                                                  obtain ⟨c_183, h⟩ := og h
                                                  refine r_xald (pc := 1170) rfl c_183 rfl dL_law_1170 ?_
                                                  refine r_aload_n (pc := 1171) (i := 0) dL_law_1171 rfl 0 rfl ?_
                                                  refine r_iload_n (pc := 1172) (i := 3) dL_law_1172 rfl 3 rfl ?_
                                                  refine r_iconst (pc := 1173) (v := 2) dL_law_1173 (by decide +kernel) ?_
                                                  refine r_iadd (pc := 1174) dL_law_1174 ?_
                                                  obtain ⟨c_184, h⟩ := og h
                                                  refine r_xald (pc := 1175) rfl c_184 rfl dL_law_1175 ?_
                                                  refine r_aload_n (pc := 1176) (i := 0) dL_law_1176 rfl 0 rfl ?_
                                                  refine r_iload_n (pc := 1177) (i := 3) dL_law_1177 rfl 3 rfl ?_
                                                  refine r_iconst (pc := 1178) (v := 3) dL_law_1178 (by decide +kernel) ?_
                                                  refine r_iadd (pc := 1179) dL_law_1179 ?_
                                                  obtain ⟨c_185, h⟩ := og h
                                                  refine r_xald (pc := 1180) rfl c_185 rfl dL_law_1180 ?_
                                                  refine r_aload_n (pc := 1181) (i := 0) dL_law_1181 rfl 0 rfl ?_
                                                  refine r_iload_n (pc := 1182) (i := 3) dL_law_1182 rfl 3 rfl ?_
                                                  refine r_iconst (pc := 1183) (v := 4) dL_law_1183 (by decide +kernel) ?_
                                                  refine r_iadd (pc := 1184) dL_law_1184 ?_
                                                  obtain ⟨c_186, h⟩ := og h
                                                  refine r_xald (pc := 1185) rfl c_186 rfl dL_law_1185 ?_
                                                  refine r_if_eq (pc := 1186) (tgt := 1193) dL_law_1186 (by decide) rfl (fun c_187 => ?_) (fun c_187 => ?_)
                                                  · replace h := (if_pos c_187).symm.trans h
                                                    refine r_iconst (pc := 1193) (v := 0) dL_law_1193 (by decide +kernel) ?_
                                                    refine r_sub (lv' := [(0, .ref c0), (1, .ref (gA G a1)), (2, .ref (gA G a2)), (3, .int (eI x3))]) [0, 1, 2, 3] rfl ?_
                                                    exact bL_law_b1194 hce xs lx c0 a1 a2 oa1 oa2 _ _ _ _ _ _ _ (fun v0 v1 v2 => ih v0 v1 v2) oa1 h
                                                  · replace h := (if_neg c_187).symm.trans h
                                                    refine r_iconst (pc := 1189) (v := 1) dL_law_1189 (by decide +kernel) ?_
                                                    refine r_goto (pc := 1190) (tgt := 1194) dL_law_1190 (by decide) ?_
                                                    refine r_sub (lv' := [(0, .ref c0), (1, .ref (gA G a1)), (2, .ref (gA G a2)), (3, .int (eI x3))]) [0, 1, 2, 3] rfl ?_
                                                    exact bL_law_b1194 hce xs lx c0 a1 a2 oa1 oa2 _ _ _ _ _ _ _ (fun v0 v1 v2 => ih v0 v1 v2) oa1 h
                                                · replace h := (if_neg c_182).symm.trans h
                                                  by_cases c_188 : wI ((xs (wI x3).toNat) % 64) = 22
                                                  · replace h := (if_pos c_188).symm.trans h
                                                    refine r_tsw (pc := 33) (tgt := 1234) (k' := 22) (rfl.trans c_188) dL_law_33 (by decide) rfl (by decide) ?_
                                                    refine r_aload_n (pc := 1234) (i := 1) dL_law_1234 rfl 1 rfl ?_
                                                    refine r_aload_n (pc := 1235) (i := 0) dL_law_1235 rfl 0 rfl ?_
                                                    refine r_iload_n (pc := 1236) (i := 3) dL_law_1236 rfl 3 rfl ?_
                                                    refine r_iconst (pc := 1237) (v := 1) dL_law_1237 (by decide +kernel) ?_
                                                    refine r_iadd (pc := 1238) dL_law_1238 ?_
                                                    obtain ⟨c_189, h⟩ := og h
                                                    refine r_xald (pc := 1239) rfl c_189 rfl dL_law_1239 ?_
                                                    refine r_aload_n (pc := 1240) (i := 0) dL_law_1240 rfl 0 rfl ?_
                                                    refine r_iload_n (pc := 1241) (i := 3) dL_law_1241 rfl 3 rfl ?_
                                                    refine r_iconst (pc := 1242) (v := 2) dL_law_1242 (by decide +kernel) ?_
                                                    refine r_iadd (pc := 1243) dL_law_1243 ?_
                                                    obtain ⟨c_190, h⟩ := og h
                                                    refine r_xald (pc := 1244) rfl c_190 rfl dL_law_1244 ?_
                                                    refine r_aload_n (pc := 1245) (i := 0) dL_law_1245 rfl 0 rfl ?_
                                                    refine r_iload_n (pc := 1246) (i := 3) dL_law_1246 rfl 3 rfl ?_
                                                    refine r_iconst (pc := 1247) (v := 3) dL_law_1247 (by decide +kernel) ?_
                                                    refine r_iadd (pc := 1248) dL_law_1248 ?_
                                                    obtain ⟨c_191, h⟩ := og h
                                                    refine r_xald (pc := 1249) rfl c_191 rfl dL_law_1249 ?_
                                                    obtain ⟨q_192, hq_192, h⟩ := ob h
                                                    refine r_cVg (pc := 1250) (Y := xX11_stand) (As := [.int (eI (xs (wI (x3 + 1)).toNat)), .int (eI (xs (wI (x3 + 2)).toNat)), .int (eI (xs (wI (x3 + 3)).toNat))]) (rest := []) (v := (some (.int (eI q_192)))) (st1 := [.int (eI q_192)]) ck_L_law_111 (kX11_stand a1 (xs (wI (x3 + 1)).toNat) (xs (wI (x3 + 2)).toNat) (xs (wI (x3 + 3)).toNat) M oa1 hq_192) oa1 rfl rfl rfl rfl (Nat.le_of_ble_eq_true rfl) ⟨rfl, rfl⟩ hce rfl dL_law_1250 ?_
                                                    refine r_aload_n (pc := 1253) (i := 2) dL_law_1253 rfl 2 rfl ?_
                                                    refine r_aload_n (pc := 1254) (i := 0) dL_law_1254 rfl 0 rfl ?_
                                                    refine r_iload_n (pc := 1255) (i := 3) dL_law_1255 rfl 3 rfl ?_
                                                    refine r_iconst (pc := 1256) (v := 1) dL_law_1256 (by decide +kernel) ?_
                                                    refine r_iadd (pc := 1257) dL_law_1257 ?_
                                                    obtain ⟨c_193, h⟩ := og h
                                                    refine r_xald (pc := 1258) rfl c_193 rfl dL_law_1258 ?_
                                                    refine r_aload_n (pc := 1259) (i := 0) dL_law_1259 rfl 0 rfl ?_
                                                    refine r_iload_n (pc := 1260) (i := 3) dL_law_1260 rfl 3 rfl ?_
                                                    refine r_iconst (pc := 1261) (v := 2) dL_law_1261 (by decide +kernel) ?_
                                                    refine r_iadd (pc := 1262) dL_law_1262 ?_
                                                    obtain ⟨c_194, h⟩ := og h
                                                    refine r_xald (pc := 1263) rfl c_194 rfl dL_law_1263 ?_
                                                    refine r_aload_n (pc := 1264) (i := 0) dL_law_1264 rfl 0 rfl ?_
                                                    refine r_iload_n (pc := 1265) (i := 3) dL_law_1265 rfl 3 rfl ?_
                                                    refine r_iconst (pc := 1266) (v := 3) dL_law_1266 (by decide +kernel) ?_
                                                    refine r_iadd (pc := 1267) dL_law_1267 ?_
                                                    obtain ⟨c_195, h⟩ := og h
                                                    refine r_xald (pc := 1268) rfl c_195 rfl dL_law_1268 ?_
                                                    obtain ⟨q_196, hq_196, h⟩ := ob h
                                                    refine r_cVg (pc := 1269) (Y := xX12_stand) (As := [.int (eI (xs (wI (x3 + 1)).toNat)), .int (eI (xs (wI (x3 + 2)).toNat)), .int (eI (xs (wI (x3 + 3)).toNat))]) (rest := [.int (eI q_192)]) (v := (some (.int (eI (q_196.1))))) (st1 := [.int (eI (q_196.1)), .int (eI q_192)]) ck_L_law_114 (kX12_stand a2 (xs (wI (x3 + 1)).toNat) (xs (wI (x3 + 2)).toNat) (xs (wI (x3 + 3)).toNat) M oa2 hq_196) oa2 rfl rfl rfl rfl (Nat.le_of_ble_eq_true rfl) ⟨rfl, rfl⟩ hce rfl dL_law_1269 ?_
                                                    refine r_icmp_eq (pc := 1272) (tgt := 1792) dL_law_1272 (by decide) rfl rfl (fun c_197 => ?_) (fun c_197 => ?_)
                                                    · replace h := (if_pos c_197).symm.trans h
                                                      refine r_sub (lv' := [(0, .ref c0), (1, .ref (gA G a1)), (2, .ref (gA G a2)), (3, .int (eI x3))]) [0, 1, 2, 3] rfl ?_
                                                      exact bL_law_b1792 hce xs lx c0 a1 a2 oa1 oa2 _ _ (fun v0 v1 v2 => ih v0 v1 v2) h
                                                    · replace h := (if_neg c_197).symm.trans h
                                                      refine r_iconst (pc := 1275) (v := 0) dL_law_1275 (by decide +kernel) ?_
                                                      cases h
                                                  · replace h := (if_neg c_188).symm.trans h
                                                    by_cases c_198 : wI ((xs (wI x3).toNat) % 64) = 23
                                                    · replace h := (if_pos c_198).symm.trans h
                                                      refine r_tsw (pc := 33) (tgt := 1277) (k' := 23) (rfl.trans c_198) dL_law_33 (by decide) rfl (by decide) ?_
                                                      refine r_aload_n (pc := 1277) (i := 1) dL_law_1277 rfl 1 rfl ?_
                                                      refine r_aload_n (pc := 1278) (i := 0) dL_law_1278 rfl 0 rfl ?_
                                                      refine r_iload_n (pc := 1279) (i := 3) dL_law_1279 rfl 3 rfl ?_
                                                      refine r_iconst (pc := 1280) (v := 1) dL_law_1280 (by decide +kernel) ?_
                                                      refine r_iadd (pc := 1281) dL_law_1281 ?_
                                                      obtain ⟨c_199, h⟩ := og h
                                                      refine r_xald (pc := 1282) rfl c_199 rfl dL_law_1282 ?_
                                                      refine r_aload_n (pc := 1283) (i := 0) dL_law_1283 rfl 0 rfl ?_
                                                      refine r_iload_n (pc := 1284) (i := 3) dL_law_1284 rfl 3 rfl ?_
                                                      refine r_iconst (pc := 1285) (v := 2) dL_law_1285 (by decide +kernel) ?_
                                                      refine r_iadd (pc := 1286) dL_law_1286 ?_
                                                      obtain ⟨c_200, h⟩ := og h
                                                      refine r_xald (pc := 1287) rfl c_200 rfl dL_law_1287 ?_
                                                      refine r_aload_n (pc := 1288) (i := 0) dL_law_1288 rfl 0 rfl ?_
                                                      refine r_iload_n (pc := 1289) (i := 3) dL_law_1289 rfl 3 rfl ?_
                                                      refine r_iconst (pc := 1290) (v := 3) dL_law_1290 (by decide +kernel) ?_
                                                      refine r_iadd (pc := 1291) dL_law_1291 ?_
                                                      obtain ⟨c_201, h⟩ := og h
                                                      refine r_xald (pc := 1292) rfl c_201 rfl dL_law_1292 ?_
                                                      refine r_if_eq (pc := 1293) (tgt := 1300) dL_law_1293 (by decide) rfl (fun c_202 => ?_) (fun c_202 => ?_)
                                                      · replace h := (if_pos c_202).symm.trans h
                                                        refine r_iconst (pc := 1300) (v := 0) dL_law_1300 (by decide +kernel) ?_
                                                        refine r_sub (lv' := [(0, .ref c0), (1, .ref (gA G a1)), (2, .ref (gA G a2)), (3, .int (eI x3))]) [0, 1, 2, 3] rfl ?_
                                                        exact bL_law_b1301 hce xs lx c0 a1 a2 oa1 oa2 _ _ _ _ _ _ (fun v0 v1 v2 => ih v0 v1 v2) oa1 h
                                                      · replace h := (if_neg c_202).symm.trans h
                                                        refine r_iconst (pc := 1296) (v := 1) dL_law_1296 (by decide +kernel) ?_
                                                        refine r_goto (pc := 1297) (tgt := 1301) dL_law_1297 (by decide) ?_
                                                        refine r_sub (lv' := [(0, .ref c0), (1, .ref (gA G a1)), (2, .ref (gA G a2)), (3, .int (eI x3))]) [0, 1, 2, 3] rfl ?_
                                                        exact bL_law_b1301 hce xs lx c0 a1 a2 oa1 oa2 _ _ _ _ _ _ (fun v0 v1 v2 => ih v0 v1 v2) oa1 h
                                                    · replace h := (if_neg c_198).symm.trans h
                                                      by_cases c_203 : wI ((xs (wI x3).toNat) % 64) = 24
                                                      · replace h := (if_pos c_203).symm.trans h
                                                        refine r_tsw (pc := 33) (tgt := 1336) (k' := 24) (rfl.trans c_203) dL_law_33 (by decide) rfl (by decide) ?_
                                                        refine r_aload_n (pc := 1336) (i := 1) dL_law_1336 rfl 1 rfl ?_
                                                        refine r_aload_n (pc := 1337) (i := 0) dL_law_1337 rfl 0 rfl ?_
                                                        refine r_iload_n (pc := 1338) (i := 3) dL_law_1338 rfl 3 rfl ?_
                                                        refine r_iconst (pc := 1339) (v := 1) dL_law_1339 (by decide +kernel) ?_
                                                        refine r_iadd (pc := 1340) dL_law_1340 ?_
                                                        obtain ⟨c_204, h⟩ := og h
                                                        refine r_xald (pc := 1341) rfl c_204 rfl dL_law_1341 ?_
                                                        refine r_aload_n (pc := 1342) (i := 0) dL_law_1342 rfl 0 rfl ?_
                                                        refine r_iload_n (pc := 1343) (i := 3) dL_law_1343 rfl 3 rfl ?_
                                                        refine r_iconst (pc := 1344) (v := 2) dL_law_1344 (by decide +kernel) ?_
                                                        refine r_iadd (pc := 1345) dL_law_1345 ?_
                                                        obtain ⟨c_205, h⟩ := og h
                                                        refine r_xald (pc := 1346) rfl c_205 rfl dL_law_1346 ?_
                                                        obtain ⟨q_206, hq_206, h⟩ := ob h
                                                        refine r_cVg (pc := 1347) (Y := xX11_safe) (As := [.int (eI (xs (wI (x3 + 1)).toNat)), .int (eI (xs (wI (x3 + 2)).toNat))]) (rest := []) (v := (some (.int (eI q_206)))) (st1 := [.int (eI q_206)]) ck_L_law_119 (kX11_safe a1 (xs (wI (x3 + 1)).toNat) (xs (wI (x3 + 2)).toNat) M oa1 hq_206) oa1 rfl rfl rfl rfl (Nat.le_of_ble_eq_true rfl) ⟨rfl, rfl⟩ hce rfl dL_law_1347 ?_
                                                        refine r_aload_n (pc := 1350) (i := 2) dL_law_1350 rfl 2 rfl ?_
                                                        refine r_aload_n (pc := 1351) (i := 0) dL_law_1351 rfl 0 rfl ?_
                                                        refine r_iload_n (pc := 1352) (i := 3) dL_law_1352 rfl 3 rfl ?_
                                                        refine r_iconst (pc := 1353) (v := 1) dL_law_1353 (by decide +kernel) ?_
                                                        refine r_iadd (pc := 1354) dL_law_1354 ?_
                                                        obtain ⟨c_207, h⟩ := og h
                                                        refine r_xald (pc := 1355) rfl c_207 rfl dL_law_1355 ?_
                                                        refine r_aload_n (pc := 1356) (i := 0) dL_law_1356 rfl 0 rfl ?_
                                                        refine r_iload_n (pc := 1357) (i := 3) dL_law_1357 rfl 3 rfl ?_
                                                        refine r_iconst (pc := 1358) (v := 2) dL_law_1358 (by decide +kernel) ?_
                                                        refine r_iadd (pc := 1359) dL_law_1359 ?_
                                                        obtain ⟨c_208, h⟩ := og h
                                                        refine r_xald (pc := 1360) rfl c_208 rfl dL_law_1360 ?_
                                                        obtain ⟨q_209, hq_209, h⟩ := ob h
                                                        refine r_cVg (pc := 1361) (Y := xX12_safe) (As := [.int (eI (xs (wI (x3 + 1)).toNat)), .int (eI (xs (wI (x3 + 2)).toNat))]) (rest := [.int (eI q_206)]) (v := (some (.int (eI (q_209.1))))) (st1 := [.int (eI (q_209.1)), .int (eI q_206)]) ck_L_law_122 (kX12_safe a2 (xs (wI (x3 + 1)).toNat) (xs (wI (x3 + 2)).toNat) M oa2 hq_209) oa2 rfl rfl rfl rfl (Nat.le_of_ble_eq_true rfl) ⟨rfl, rfl⟩ hce rfl dL_law_1361 ?_
                                                        refine r_icmp_eq (pc := 1364) (tgt := 1792) dL_law_1364 (by decide) rfl rfl (fun c_210 => ?_) (fun c_210 => ?_)
                                                        · replace h := (if_pos c_210).symm.trans h
                                                          refine r_sub (lv' := [(0, .ref c0), (1, .ref (gA G a1)), (2, .ref (gA G a2)), (3, .int (eI x3))]) [0, 1, 2, 3] rfl ?_
                                                          exact bL_law_b1792 hce xs lx c0 a1 a2 oa1 oa2 _ _ (fun v0 v1 v2 => ih v0 v1 v2) h
                                                        · replace h := (if_neg c_210).symm.trans h
                                                          refine r_iconst (pc := 1367) (v := 0) dL_law_1367 (by decide +kernel) ?_
                                                          cases h
                                                      · replace h := (if_neg c_203).symm.trans h
                                                        by_cases c_211 : wI ((xs (wI x3).toNat) % 64) = 25
                                                        · replace h := (if_pos c_211).symm.trans h
                                                          refine r_tsw (pc := 33) (tgt := 1369) (k' := 25) (rfl.trans c_211) dL_law_33 (by decide) rfl (by decide) ?_
                                                          refine r_aload_n (pc := 1369) (i := 1) dL_law_1369 rfl 1 rfl ?_
                                                          refine r_aload_n (pc := 1370) (i := 0) dL_law_1370 rfl 0 rfl ?_
                                                          refine r_iload_n (pc := 1371) (i := 3) dL_law_1371 rfl 3 rfl ?_
                                                          refine r_iconst (pc := 1372) (v := 1) dL_law_1372 (by decide +kernel) ?_
                                                          refine r_iadd (pc := 1373) dL_law_1373 ?_
                                                          obtain ⟨c_212, h⟩ := og h
                                                          refine r_xald (pc := 1374) rfl c_212 rfl dL_law_1374 ?_
                                                          refine r_aload_n (pc := 1375) (i := 0) dL_law_1375 rfl 0 rfl ?_
                                                          refine r_iload_n (pc := 1376) (i := 3) dL_law_1376 rfl 3 rfl ?_
                                                          refine r_iconst (pc := 1377) (v := 2) dL_law_1377 (by decide +kernel) ?_
                                                          refine r_iadd (pc := 1378) dL_law_1378 ?_
                                                          obtain ⟨c_213, h⟩ := og h
                                                          refine r_xald (pc := 1379) rfl c_213 rfl dL_law_1379 ?_
                                                          refine r_aload_n (pc := 1380) (i := 0) dL_law_1380 rfl 0 rfl ?_
                                                          refine r_iload_n (pc := 1381) (i := 3) dL_law_1381 rfl 3 rfl ?_
                                                          refine r_iconst (pc := 1382) (v := 3) dL_law_1382 (by decide +kernel) ?_
                                                          refine r_iadd (pc := 1383) dL_law_1383 ?_
                                                          obtain ⟨c_214, h⟩ := og h
                                                          refine r_xald (pc := 1384) rfl c_214 rfl dL_law_1384 ?_
                                                          obtain ⟨q_215, hq_215, h⟩ := ob h
                                                          refine r_cVg (pc := 1385) (Y := xX11_fell) (As := [.int (eI (xs (wI (x3 + 1)).toNat)), .int (eI (xs (wI (x3 + 2)).toNat)), .int (eI (xs (wI (x3 + 3)).toNat))]) (rest := []) (v := (some (.int (eI q_215)))) (st1 := [.int (eI q_215)]) ck_L_law_123 (kX11_fell a1 (xs (wI (x3 + 1)).toNat) (xs (wI (x3 + 2)).toNat) (xs (wI (x3 + 3)).toNat) M oa1 hq_215) oa1 rfl rfl rfl rfl (Nat.le_of_ble_eq_true rfl) ⟨rfl, rfl⟩ hce rfl dL_law_1385 ?_
                                                          refine r_aload_n (pc := 1388) (i := 2) dL_law_1388 rfl 2 rfl ?_
                                                          refine r_aload_n (pc := 1389) (i := 0) dL_law_1389 rfl 0 rfl ?_
                                                          refine r_iload_n (pc := 1390) (i := 3) dL_law_1390 rfl 3 rfl ?_
                                                          refine r_iconst (pc := 1391) (v := 1) dL_law_1391 (by decide +kernel) ?_
                                                          refine r_iadd (pc := 1392) dL_law_1392 ?_
                                                          obtain ⟨c_216, h⟩ := og h
                                                          refine r_xald (pc := 1393) rfl c_216 rfl dL_law_1393 ?_
                                                          refine r_aload_n (pc := 1394) (i := 0) dL_law_1394 rfl 0 rfl ?_
                                                          refine r_iload_n (pc := 1395) (i := 3) dL_law_1395 rfl 3 rfl ?_
                                                          refine r_iconst (pc := 1396) (v := 2) dL_law_1396 (by decide +kernel) ?_
                                                          refine r_iadd (pc := 1397) dL_law_1397 ?_
                                                          obtain ⟨c_217, h⟩ := og h
                                                          refine r_xald (pc := 1398) rfl c_217 rfl dL_law_1398 ?_
                                                          refine r_aload_n (pc := 1399) (i := 0) dL_law_1399 rfl 0 rfl ?_
                                                          refine r_iload_n (pc := 1400) (i := 3) dL_law_1400 rfl 3 rfl ?_
                                                          refine r_iconst (pc := 1401) (v := 3) dL_law_1401 (by decide +kernel) ?_
                                                          refine r_iadd (pc := 1402) dL_law_1402 ?_
                                                          obtain ⟨c_218, h⟩ := og h
                                                          refine r_xald (pc := 1403) rfl c_218 rfl dL_law_1403 ?_
                                                          obtain ⟨q_219, hq_219, h⟩ := ob h
                                                          refine r_cVg (pc := 1404) (Y := xX12_fell) (As := [.int (eI (xs (wI (x3 + 1)).toNat)), .int (eI (xs (wI (x3 + 2)).toNat)), .int (eI (xs (wI (x3 + 3)).toNat))]) (rest := [.int (eI q_215)]) (v := (some (.int (eI (q_219.1))))) (st1 := [.int (eI (q_219.1)), .int (eI q_215)]) ck_L_law_126 (kX12_fell a2 (xs (wI (x3 + 1)).toNat) (xs (wI (x3 + 2)).toNat) (xs (wI (x3 + 3)).toNat) M oa2 hq_219) oa2 rfl rfl rfl rfl (Nat.le_of_ble_eq_true rfl) ⟨rfl, rfl⟩ hce rfl dL_law_1404 ?_
                                                          refine r_icmp_eq (pc := 1407) (tgt := 1792) dL_law_1407 (by decide) rfl rfl (fun c_220 => ?_) (fun c_220 => ?_)
                                                          · replace h := (if_pos c_220).symm.trans h
                                                            refine r_sub (lv' := [(0, .ref c0), (1, .ref (gA G a1)), (2, .ref (gA G a2)), (3, .int (eI x3))]) [0, 1, 2, 3] rfl ?_
                                                            exact bL_law_b1792 hce xs lx c0 a1 a2 oa1 oa2 _ _ (fun v0 v1 v2 => ih v0 v1 v2) h
                                                          · replace h := (if_neg c_220).symm.trans h
                                                            refine r_iconst (pc := 1410) (v := 0) dL_law_1410 (by decide +kernel) ?_
                                                            cases h
                                                        · replace h := (if_neg c_211).symm.trans h
                                                          by_cases c_221 : wI ((xs (wI x3).toNat) % 64) = 26
                                                          · replace h := (if_pos c_221).symm.trans h
                                                            refine r_tsw (pc := 33) (tgt := 1412) (k' := 26) (rfl.trans c_221) dL_law_33 (by decide) rfl (by decide) ?_
                                                            refine r_aload_n (pc := 1412) (i := 1) dL_law_1412 rfl 1 rfl ?_
                                                            refine r_aload_n (pc := 1413) (i := 0) dL_law_1413 rfl 0 rfl ?_
                                                            refine r_iload_n (pc := 1414) (i := 3) dL_law_1414 rfl 3 rfl ?_
                                                            refine r_iconst (pc := 1415) (v := 1) dL_law_1415 (by decide +kernel) ?_
                                                            refine r_iadd (pc := 1416) dL_law_1416 ?_
                                                            obtain ⟨c_222, h⟩ := og h
                                                            refine r_xald (pc := 1417) rfl c_222 rfl dL_law_1417 ?_
                                                            refine r_aload_n (pc := 1418) (i := 0) dL_law_1418 rfl 0 rfl ?_
                                                            refine r_iload_n (pc := 1419) (i := 3) dL_law_1419 rfl 3 rfl ?_
                                                            refine r_iconst (pc := 1420) (v := 2) dL_law_1420 (by decide +kernel) ?_
                                                            refine r_iadd (pc := 1421) dL_law_1421 ?_
                                                            obtain ⟨c_223, h⟩ := og h
                                                            refine r_xald (pc := 1422) rfl c_223 rfl dL_law_1422 ?_
                                                            refine r_aload_n (pc := 1423) (i := 0) dL_law_1423 rfl 0 rfl ?_
                                                            refine r_iload_n (pc := 1424) (i := 3) dL_law_1424 rfl 3 rfl ?_
                                                            refine r_iconst (pc := 1425) (v := 3) dL_law_1425 (by decide +kernel) ?_
                                                            refine r_iadd (pc := 1426) dL_law_1426 ?_
                                                            obtain ⟨c_224, h⟩ := og h
                                                            refine r_xald (pc := 1427) rfl c_224 rfl dL_law_1427 ?_
                                                            refine r_aload_n (pc := 1428) (i := 0) dL_law_1428 rfl 0 rfl ?_
                                                            refine r_iload_n (pc := 1429) (i := 3) dL_law_1429 rfl 3 rfl ?_
                                                            refine r_iconst (pc := 1430) (v := 4) dL_law_1430 (by decide +kernel) ?_
                                                            refine r_iadd (pc := 1431) dL_law_1431 ?_
                                                            obtain ⟨c_225, h⟩ := og h
                                                            refine r_xald (pc := 1432) rfl c_225 rfl dL_law_1432 ?_
                                                            refine r_aload_n (pc := 1433) (i := 0) dL_law_1433 rfl 0 rfl ?_
                                                            refine r_iload_n (pc := 1434) (i := 3) dL_law_1434 rfl 3 rfl ?_
                                                            refine r_iconst (pc := 1435) (v := 5) dL_law_1435 (by decide +kernel) ?_
                                                            refine r_iadd (pc := 1436) dL_law_1436 ?_
                                                            obtain ⟨c_226, h⟩ := og h
                                                            refine r_xald (pc := 1437) rfl c_226 rfl dL_law_1437 ?_
                                                            obtain ⟨q_227, hq_227, h⟩ := ob h
                                                            refine r_cVg (pc := 1438) (Y := xX11_bag) (As := [.int (eI (xs (wI (x3 + 1)).toNat)), .int (eI (xs (wI (x3 + 2)).toNat)), .int (eI (xs (wI (x3 + 3)).toNat)), .int (eI (xs (wI (x3 + 4)).toNat)), .int (eI (xs (wI (x3 + 5)).toNat))]) (rest := []) (v := (some (.int (eI (q_227.1))))) (st1 := [.int (eI (q_227.1))]) ck_L_law_127 (kX11_bag a1 (xs (wI (x3 + 1)).toNat) (xs (wI (x3 + 2)).toNat) (xs (wI (x3 + 3)).toNat) (xs (wI (x3 + 4)).toNat) (xs (wI (x3 + 5)).toNat) M oa1 hq_227) oa1 rfl rfl rfl rfl (Nat.le_of_ble_eq_true rfl) ⟨rfl, rfl⟩ hce rfl dL_law_1438 ?_
                                                            refine r_aload_n (pc := 1441) (i := 2) dL_law_1441 rfl 2 rfl ?_
                                                            refine r_aload_n (pc := 1442) (i := 0) dL_law_1442 rfl 0 rfl ?_
                                                            refine r_iload_n (pc := 1443) (i := 3) dL_law_1443 rfl 3 rfl ?_
                                                            refine r_iconst (pc := 1444) (v := 1) dL_law_1444 (by decide +kernel) ?_
                                                            refine r_iadd (pc := 1445) dL_law_1445 ?_
                                                            obtain ⟨c_228, h⟩ := og h
                                                            refine r_xald (pc := 1446) rfl c_228 rfl dL_law_1446 ?_
                                                            refine r_aload_n (pc := 1447) (i := 0) dL_law_1447 rfl 0 rfl ?_
                                                            refine r_iload_n (pc := 1448) (i := 3) dL_law_1448 rfl 3 rfl ?_
                                                            refine r_iconst (pc := 1449) (v := 2) dL_law_1449 (by decide +kernel) ?_
                                                            refine r_iadd (pc := 1450) dL_law_1450 ?_
                                                            obtain ⟨c_229, h⟩ := og h
                                                            refine r_xald (pc := 1451) rfl c_229 rfl dL_law_1451 ?_
                                                            refine r_aload_n (pc := 1452) (i := 0) dL_law_1452 rfl 0 rfl ?_
                                                            refine r_iload_n (pc := 1453) (i := 3) dL_law_1453 rfl 3 rfl ?_
                                                            refine r_iconst (pc := 1454) (v := 3) dL_law_1454 (by decide +kernel) ?_
                                                            refine r_iadd (pc := 1455) dL_law_1455 ?_
                                                            obtain ⟨c_230, h⟩ := og h
                                                            refine r_xald (pc := 1456) rfl c_230 rfl dL_law_1456 ?_
                                                            refine r_aload_n (pc := 1457) (i := 0) dL_law_1457 rfl 0 rfl ?_
                                                            refine r_iload_n (pc := 1458) (i := 3) dL_law_1458 rfl 3 rfl ?_
                                                            refine r_iconst (pc := 1459) (v := 4) dL_law_1459 (by decide +kernel) ?_
                                                            refine r_iadd (pc := 1460) dL_law_1460 ?_
                                                            obtain ⟨c_231, h⟩ := og h
                                                            refine r_xald (pc := 1461) rfl c_231 rfl dL_law_1461 ?_
                                                            refine r_aload_n (pc := 1462) (i := 0) dL_law_1462 rfl 0 rfl ?_
                                                            refine r_iload_n (pc := 1463) (i := 3) dL_law_1463 rfl 3 rfl ?_
                                                            refine r_iconst (pc := 1464) (v := 5) dL_law_1464 (by decide +kernel) ?_
                                                            refine r_iadd (pc := 1465) dL_law_1465 ?_
                                                            obtain ⟨c_232, h⟩ := og h
                                                            refine r_xald (pc := 1466) rfl c_232 rfl dL_law_1466 ?_
                                                            obtain ⟨q_233, hq_233, h⟩ := ob h
                                                            refine r_cVg (pc := 1467) (Y := xX12_bag) (As := [.int (eI (xs (wI (x3 + 1)).toNat)), .int (eI (xs (wI (x3 + 2)).toNat)), .int (eI (xs (wI (x3 + 3)).toNat)), .int (eI (xs (wI (x3 + 4)).toNat)), .int (eI (xs (wI (x3 + 5)).toNat))]) (rest := [.int (eI (q_227.1))]) (v := (some (.int (eI (q_233.1))))) (st1 := [.int (eI (q_233.1)), .int (eI (q_227.1))]) ck_L_law_130 (kX12_bag a2 (xs (wI (x3 + 1)).toNat) (xs (wI (x3 + 2)).toNat) (xs (wI (x3 + 3)).toNat) (xs (wI (x3 + 4)).toNat) (xs (wI (x3 + 5)).toNat) q_227.2 oa2 hq_233) oa2 rfl rfl rfl rfl (Nat.le_of_ble_eq_true rfl) ⟨rfl, rfl⟩ hce rfl dL_law_1467 ?_
                                                            refine r_icmp_eq (pc := 1470) (tgt := 1792) dL_law_1470 (by decide) rfl rfl (fun c_234 => ?_) (fun c_234 => ?_)
                                                            · replace h := (if_pos c_234).symm.trans h
                                                              refine r_sub (lv' := [(0, .ref c0), (1, .ref (gA G a1)), (2, .ref (gA G a2)), (3, .int (eI x3))]) [0, 1, 2, 3] rfl ?_
                                                              exact bL_law_b1792 hce xs lx c0 a1 a2 oa1 oa2 _ _ (fun v0 v1 v2 => ih v0 v1 v2) h
                                                            · replace h := (if_neg c_234).symm.trans h
                                                              refine r_iconst (pc := 1473) (v := 0) dL_law_1473 (by decide +kernel) ?_
                                                              cases h
                                                          · replace h := (if_neg c_221).symm.trans h
                                                            by_cases c_235 : wI ((xs (wI x3).toNat) % 64) = 27
                                                            · replace h := (if_pos c_235).symm.trans h
                                                              refine r_tsw (pc := 33) (tgt := 1475) (k' := 27) (rfl.trans c_235) dL_law_33 (by decide) rfl (by decide) ?_
                                                              refine r_aload_n (pc := 1475) (i := 1) dL_law_1475 rfl 1 rfl ?_
                                                              refine r_aload_n (pc := 1476) (i := 0) dL_law_1476 rfl 0 rfl ?_
                                                              refine r_iload_n (pc := 1477) (i := 3) dL_law_1477 rfl 3 rfl ?_
                                                              refine r_iconst (pc := 1478) (v := 1) dL_law_1478 (by decide +kernel) ?_
                                                              refine r_iadd (pc := 1479) dL_law_1479 ?_
                                                              obtain ⟨c_236, h⟩ := og h
                                                              refine r_xald (pc := 1480) rfl c_236 rfl dL_law_1480 ?_
                                                              refine r_aload_n (pc := 1481) (i := 0) dL_law_1481 rfl 0 rfl ?_
                                                              refine r_iload_n (pc := 1482) (i := 3) dL_law_1482 rfl 3 rfl ?_
                                                              refine r_iconst (pc := 1483) (v := 2) dL_law_1483 (by decide +kernel) ?_
                                                              refine r_iadd (pc := 1484) dL_law_1484 ?_
                                                              obtain ⟨c_237, h⟩ := og h
                                                              refine r_xald (pc := 1485) rfl c_237 rfl dL_law_1485 ?_
                                                              obtain ⟨q_238, hq_238, h⟩ := ob h
                                                              refine r_cVg (pc := 1486) (Y := xX11_record) (As := [.int (eI (xs (wI (x3 + 1)).toNat)), .int (eI (xs (wI (x3 + 2)).toNat))]) (rest := []) (v := (some (.int (eI q_238)))) (st1 := [.int (eI q_238)]) ck_L_law_131 (kX11_record a1 (xs (wI (x3 + 1)).toNat) (xs (wI (x3 + 2)).toNat) M oa1 hq_238) oa1 rfl rfl rfl rfl (Nat.le_of_ble_eq_true rfl) ⟨rfl, rfl⟩ hce rfl dL_law_1486 ?_
                                                              refine r_aload_n (pc := 1489) (i := 2) dL_law_1489 rfl 2 rfl ?_
                                                              refine r_aload_n (pc := 1490) (i := 0) dL_law_1490 rfl 0 rfl ?_
                                                              refine r_iload_n (pc := 1491) (i := 3) dL_law_1491 rfl 3 rfl ?_
                                                              refine r_iconst (pc := 1492) (v := 1) dL_law_1492 (by decide +kernel) ?_
                                                              refine r_iadd (pc := 1493) dL_law_1493 ?_
                                                              obtain ⟨c_239, h⟩ := og h
                                                              refine r_xald (pc := 1494) rfl c_239 rfl dL_law_1494 ?_
                                                              refine r_aload_n (pc := 1495) (i := 0) dL_law_1495 rfl 0 rfl ?_
                                                              refine r_iload_n (pc := 1496) (i := 3) dL_law_1496 rfl 3 rfl ?_
                                                              refine r_iconst (pc := 1497) (v := 2) dL_law_1497 (by decide +kernel) ?_
                                                              refine r_iadd (pc := 1498) dL_law_1498 ?_
                                                              obtain ⟨c_240, h⟩ := og h
                                                              refine r_xald (pc := 1499) rfl c_240 rfl dL_law_1499 ?_
                                                              obtain ⟨q_241, hq_241, h⟩ := ob h
                                                              refine r_cVg (pc := 1500) (Y := xX12_record) (As := [.int (eI (xs (wI (x3 + 1)).toNat)), .int (eI (xs (wI (x3 + 2)).toNat))]) (rest := [.int (eI q_238)]) (v := (some (.int (eI (q_241.1))))) (st1 := [.int (eI (q_241.1)), .int (eI q_238)]) ck_L_law_134 (kX12_record a2 (xs (wI (x3 + 1)).toNat) (xs (wI (x3 + 2)).toNat) M oa2 hq_241) oa2 rfl rfl rfl rfl (Nat.le_of_ble_eq_true rfl) ⟨rfl, rfl⟩ hce rfl dL_law_1500 ?_
                                                              refine r_icmp_eq (pc := 1503) (tgt := 1792) dL_law_1503 (by decide) rfl rfl (fun c_242 => ?_) (fun c_242 => ?_)
                                                              · replace h := (if_pos c_242).symm.trans h
                                                                refine r_sub (lv' := [(0, .ref c0), (1, .ref (gA G a1)), (2, .ref (gA G a2)), (3, .int (eI x3))]) [0, 1, 2, 3] rfl ?_
                                                                exact bL_law_b1792 hce xs lx c0 a1 a2 oa1 oa2 _ _ (fun v0 v1 v2 => ih v0 v1 v2) h
                                                              · replace h := (if_neg c_242).symm.trans h
                                                                refine r_iconst (pc := 1506) (v := 0) dL_law_1506 (by decide +kernel) ?_
                                                                cases h
                                                            · replace h := (if_neg c_235).symm.trans h
                                                              by_cases c_243 : wI ((xs (wI x3).toNat) % 64) = 28
                                                              · replace h := (if_pos c_243).symm.trans h
                                                                refine r_tsw (pc := 33) (tgt := 1508) (k' := 28) (rfl.trans c_243) dL_law_33 (by decide) rfl (by decide) ?_
                                                                refine r_aload_n (pc := 1508) (i := 1) dL_law_1508 rfl 1 rfl ?_
                                                                refine r_aload_n (pc := 1509) (i := 0) dL_law_1509 rfl 0 rfl ?_
                                                                refine r_iload_n (pc := 1510) (i := 3) dL_law_1510 rfl 3 rfl ?_
                                                                refine r_iconst (pc := 1511) (v := 1) dL_law_1511 (by decide +kernel) ?_
                                                                refine r_iadd (pc := 1512) dL_law_1512 ?_
                                                                obtain ⟨c_244, h⟩ := og h
                                                                refine r_xald (pc := 1513) rfl c_244 rfl dL_law_1513 ?_
                                                                refine r_aload_n (pc := 1514) (i := 0) dL_law_1514 rfl 0 rfl ?_
                                                                refine r_iload_n (pc := 1515) (i := 3) dL_law_1515 rfl 3 rfl ?_
                                                                refine r_iconst (pc := 1516) (v := 2) dL_law_1516 (by decide +kernel) ?_
                                                                refine r_iadd (pc := 1517) dL_law_1517 ?_
                                                                obtain ⟨c_245, h⟩ := og h
                                                                refine r_xald (pc := 1518) rfl c_245 rfl dL_law_1518 ?_
                                                                refine r_aload_n (pc := 1519) (i := 0) dL_law_1519 rfl 0 rfl ?_
                                                                refine r_iload_n (pc := 1520) (i := 3) dL_law_1520 rfl 3 rfl ?_
                                                                refine r_iconst (pc := 1521) (v := 3) dL_law_1521 (by decide +kernel) ?_
                                                                refine r_iadd (pc := 1522) dL_law_1522 ?_
                                                                obtain ⟨c_246, h⟩ := og h
                                                                refine r_xald (pc := 1523) rfl c_246 rfl dL_law_1523 ?_
                                                                refine r_if_eq (pc := 1524) (tgt := 1531) dL_law_1524 (by decide) rfl (fun c_247 => ?_) (fun c_247 => ?_)
                                                                · replace h := (if_pos c_247).symm.trans h
                                                                  refine r_iconst (pc := 1531) (v := 0) dL_law_1531 (by decide +kernel) ?_
                                                                  refine r_sub (lv' := [(0, .ref c0), (1, .ref (gA G a1)), (2, .ref (gA G a2)), (3, .int (eI x3))]) [0, 1, 2, 3] rfl ?_
                                                                  exact bL_law_b1532 hce xs lx c0 a1 a2 oa1 oa2 _ _ _ _ _ _ (fun v0 v1 v2 => ih v0 v1 v2) oa1 h
                                                                · replace h := (if_neg c_247).symm.trans h
                                                                  refine r_iconst (pc := 1527) (v := 1) dL_law_1527 (by decide +kernel) ?_
                                                                  refine r_goto (pc := 1528) (tgt := 1532) dL_law_1528 (by decide) ?_
                                                                  refine r_sub (lv' := [(0, .ref c0), (1, .ref (gA G a1)), (2, .ref (gA G a2)), (3, .int (eI x3))]) [0, 1, 2, 3] rfl ?_
                                                                  exact bL_law_b1532 hce xs lx c0 a1 a2 oa1 oa2 _ _ _ _ _ _ (fun v0 v1 v2 => ih v0 v1 v2) oa1 h
                                                              · replace h := (if_neg c_243).symm.trans h
                                                                by_cases c_248 : wI ((xs (wI x3).toNat) % 64) = 29
                                                                · replace h := (if_pos c_248).symm.trans h
                                                                  refine r_tsw (pc := 33) (tgt := 1567) (k' := 29) (rfl.trans c_248) dL_law_33 (by decide) rfl (by decide) ?_
                                                                  refine r_aload_n (pc := 1567) (i := 1) dL_law_1567 rfl 1 rfl ?_
                                                                  refine r_aload_n (pc := 1568) (i := 0) dL_law_1568 rfl 0 rfl ?_
                                                                  refine r_iload_n (pc := 1569) (i := 3) dL_law_1569 rfl 3 rfl ?_
                                                                  refine r_iconst (pc := 1570) (v := 1) dL_law_1570 (by decide +kernel) ?_
                                                                  refine r_iadd (pc := 1571) dL_law_1571 ?_
                                                                  obtain ⟨c_249, h⟩ := og h
                                                                  refine r_xald (pc := 1572) rfl c_249 rfl dL_law_1572 ?_
                                                                  refine r_aload_n (pc := 1573) (i := 0) dL_law_1573 rfl 0 rfl ?_
                                                                  refine r_iload_n (pc := 1574) (i := 3) dL_law_1574 rfl 3 rfl ?_
                                                                  refine r_iconst (pc := 1575) (v := 2) dL_law_1575 (by decide +kernel) ?_
                                                                  refine r_iadd (pc := 1576) dL_law_1576 ?_
                                                                  obtain ⟨c_250, h⟩ := og h
                                                                  refine r_xald (pc := 1577) rfl c_250 rfl dL_law_1577 ?_
                                                                  refine r_aload_n (pc := 1578) (i := 0) dL_law_1578 rfl 0 rfl ?_
                                                                  refine r_iload_n (pc := 1579) (i := 3) dL_law_1579 rfl 3 rfl ?_
                                                                  refine r_iconst (pc := 1580) (v := 3) dL_law_1580 (by decide +kernel) ?_
                                                                  refine r_iadd (pc := 1581) dL_law_1581 ?_
                                                                  obtain ⟨c_251, h⟩ := og h
                                                                  refine r_xald (pc := 1582) rfl c_251 rfl dL_law_1582 ?_
                                                                  refine r_aload_n (pc := 1583) (i := 0) dL_law_1583 rfl 0 rfl ?_
                                                                  refine r_iload_n (pc := 1584) (i := 3) dL_law_1584 rfl 3 rfl ?_
                                                                  refine r_iconst (pc := 1585) (v := 4) dL_law_1585 (by decide +kernel) ?_
                                                                  refine r_iadd (pc := 1586) dL_law_1586 ?_
                                                                  obtain ⟨c_252, h⟩ := og h
                                                                  refine r_xald (pc := 1587) rfl c_252 rfl dL_law_1587 ?_
                                                                  refine r_if_eq (pc := 1588) (tgt := 1595) dL_law_1588 (by decide) rfl (fun c_253 => ?_) (fun c_253 => ?_)
                                                                  · replace h := (if_pos c_253).symm.trans h
                                                                    refine r_iconst (pc := 1595) (v := 0) dL_law_1595 (by decide +kernel) ?_
                                                                    refine r_sub (lv' := [(0, .ref c0), (1, .ref (gA G a1)), (2, .ref (gA G a2)), (3, .int (eI x3))]) [0, 1, 2, 3] rfl ?_
                                                                    exact bL_law_b1596 hce xs lx c0 a1 a2 oa1 oa2 _ _ _ _ _ _ _ (fun v0 v1 v2 => ih v0 v1 v2) oa1 h
                                                                  · replace h := (if_neg c_253).symm.trans h
                                                                    refine r_iconst (pc := 1591) (v := 1) dL_law_1591 (by decide +kernel) ?_
                                                                    refine r_goto (pc := 1592) (tgt := 1596) dL_law_1592 (by decide) ?_
                                                                    refine r_sub (lv' := [(0, .ref c0), (1, .ref (gA G a1)), (2, .ref (gA G a2)), (3, .int (eI x3))]) [0, 1, 2, 3] rfl ?_
                                                                    exact bL_law_b1596 hce xs lx c0 a1 a2 oa1 oa2 _ _ _ _ _ _ _ (fun v0 v1 v2 => ih v0 v1 v2) oa1 h
                                                                · replace h := (if_neg c_248).symm.trans h
                                                                  by_cases c_254 : wI ((xs (wI x3).toNat) % 64) = 30
                                                                  · replace h := (if_pos c_254).symm.trans h
                                                                    refine r_tsw (pc := 33) (tgt := 1637) (k' := 30) (rfl.trans c_254) dL_law_33 (by decide) rfl (by decide) ?_
                                                                    refine r_aload_n (pc := 1637) (i := 1) dL_law_1637 rfl 1 rfl ?_
                                                                    refine r_aload_n (pc := 1638) (i := 0) dL_law_1638 rfl 0 rfl ?_
                                                                    refine r_iload_n (pc := 1639) (i := 3) dL_law_1639 rfl 3 rfl ?_
                                                                    refine r_iconst (pc := 1640) (v := 1) dL_law_1640 (by decide +kernel) ?_
                                                                    refine r_iadd (pc := 1641) dL_law_1641 ?_
                                                                    obtain ⟨c_255, h⟩ := og h
                                                                    refine r_xald (pc := 1642) rfl c_255 rfl dL_law_1642 ?_
                                                                    refine r_aload_n (pc := 1643) (i := 0) dL_law_1643 rfl 0 rfl ?_
                                                                    refine r_iload_n (pc := 1644) (i := 3) dL_law_1644 rfl 3 rfl ?_
                                                                    refine r_iconst (pc := 1645) (v := 2) dL_law_1645 (by decide +kernel) ?_
                                                                    refine r_iadd (pc := 1646) dL_law_1646 ?_
                                                                    obtain ⟨c_256, h⟩ := og h
                                                                    refine r_xald (pc := 1647) rfl c_256 rfl dL_law_1647 ?_
                                                                    refine r_aload_n (pc := 1648) (i := 0) dL_law_1648 rfl 0 rfl ?_
                                                                    refine r_iload_n (pc := 1649) (i := 3) dL_law_1649 rfl 3 rfl ?_
                                                                    refine r_iconst (pc := 1650) (v := 3) dL_law_1650 (by decide +kernel) ?_
                                                                    refine r_iadd (pc := 1651) dL_law_1651 ?_
                                                                    obtain ⟨c_257, h⟩ := og h
                                                                    refine r_xald (pc := 1652) rfl c_257 rfl dL_law_1652 ?_
                                                                    obtain ⟨q_258, hq_258, h⟩ := ob h
                                                                    refine r_cVg (pc := 1653) (Y := xX11_many) (As := [.int (eI (xs (wI (x3 + 1)).toNat)), .int (eI (xs (wI (x3 + 2)).toNat)), .int (eI (xs (wI (x3 + 3)).toNat))]) (rest := []) (v := (some (.int (eI q_258)))) (st1 := [.int (eI q_258)]) ck_L_law_143 (kX11_many a1 (xs (wI (x3 + 1)).toNat) (xs (wI (x3 + 2)).toNat) (xs (wI (x3 + 3)).toNat) M oa1 hq_258) oa1 rfl rfl rfl rfl (Nat.le_of_ble_eq_true rfl) ⟨rfl, rfl⟩ hce rfl dL_law_1653 ?_
                                                                    refine r_aload_n (pc := 1656) (i := 2) dL_law_1656 rfl 2 rfl ?_
                                                                    refine r_aload_n (pc := 1657) (i := 0) dL_law_1657 rfl 0 rfl ?_
                                                                    refine r_iload_n (pc := 1658) (i := 3) dL_law_1658 rfl 3 rfl ?_
                                                                    refine r_iconst (pc := 1659) (v := 1) dL_law_1659 (by decide +kernel) ?_
                                                                    refine r_iadd (pc := 1660) dL_law_1660 ?_
                                                                    obtain ⟨c_259, h⟩ := og h
                                                                    refine r_xald (pc := 1661) rfl c_259 rfl dL_law_1661 ?_
                                                                    refine r_aload_n (pc := 1662) (i := 0) dL_law_1662 rfl 0 rfl ?_
                                                                    refine r_iload_n (pc := 1663) (i := 3) dL_law_1663 rfl 3 rfl ?_
                                                                    refine r_iconst (pc := 1664) (v := 2) dL_law_1664 (by decide +kernel) ?_
                                                                    refine r_iadd (pc := 1665) dL_law_1665 ?_
                                                                    obtain ⟨c_260, h⟩ := og h
                                                                    refine r_xald (pc := 1666) rfl c_260 rfl dL_law_1666 ?_
                                                                    refine r_aload_n (pc := 1667) (i := 0) dL_law_1667 rfl 0 rfl ?_
                                                                    refine r_iload_n (pc := 1668) (i := 3) dL_law_1668 rfl 3 rfl ?_
                                                                    refine r_iconst (pc := 1669) (v := 3) dL_law_1669 (by decide +kernel) ?_
                                                                    refine r_iadd (pc := 1670) dL_law_1670 ?_
                                                                    obtain ⟨c_261, h⟩ := og h
                                                                    refine r_xald (pc := 1671) rfl c_261 rfl dL_law_1671 ?_
                                                                    obtain ⟨q_262, hq_262, h⟩ := ob h
                                                                    refine r_cVg (pc := 1672) (Y := xX12_many) (As := [.int (eI (xs (wI (x3 + 1)).toNat)), .int (eI (xs (wI (x3 + 2)).toNat)), .int (eI (xs (wI (x3 + 3)).toNat))]) (rest := [.int (eI q_258)]) (v := (some (.int (eI (q_262.1))))) (st1 := [.int (eI (q_262.1)), .int (eI q_258)]) ck_L_law_146 (kX12_many a2 (xs (wI (x3 + 1)).toNat) (xs (wI (x3 + 2)).toNat) (xs (wI (x3 + 3)).toNat) M oa2 hq_262) oa2 rfl rfl rfl rfl (Nat.le_of_ble_eq_true rfl) ⟨rfl, rfl⟩ hce rfl dL_law_1672 ?_
                                                                    refine r_icmp_eq (pc := 1675) (tgt := 1792) dL_law_1675 (by decide) rfl rfl (fun c_263 => ?_) (fun c_263 => ?_)
                                                                    · replace h := (if_pos c_263).symm.trans h
                                                                      refine r_sub (lv' := [(0, .ref c0), (1, .ref (gA G a1)), (2, .ref (gA G a2)), (3, .int (eI x3))]) [0, 1, 2, 3] rfl ?_
                                                                      exact bL_law_b1792 hce xs lx c0 a1 a2 oa1 oa2 _ _ (fun v0 v1 v2 => ih v0 v1 v2) h
                                                                    · replace h := (if_neg c_263).symm.trans h
                                                                      refine r_iconst (pc := 1678) (v := 0) dL_law_1678 (by decide +kernel) ?_
                                                                      cases h
                                                                  · replace h := (if_neg c_254).symm.trans h
                                                                    by_cases c_264 : wI ((xs (wI x3).toNat) % 64) = 31
                                                                    · replace h := (if_pos c_264).symm.trans h
                                                                      refine r_tsw (pc := 33) (tgt := 1680) (k' := 31) (rfl.trans c_264) dL_law_33 (by decide) rfl (by decide) ?_
                                                                      refine r_aload_n (pc := 1680) (i := 1) dL_law_1680 rfl 1 rfl ?_
                                                                      refine r_aload_n (pc := 1681) (i := 0) dL_law_1681 rfl 0 rfl ?_
                                                                      refine r_iload_n (pc := 1682) (i := 3) dL_law_1682 rfl 3 rfl ?_
                                                                      refine r_iconst (pc := 1683) (v := 1) dL_law_1683 (by decide +kernel) ?_
                                                                      refine r_iadd (pc := 1684) dL_law_1684 ?_
                                                                      obtain ⟨c_265, h⟩ := og h
                                                                      refine r_xald (pc := 1685) rfl c_265 rfl dL_law_1685 ?_
                                                                      refine r_aload_n (pc := 1686) (i := 0) dL_law_1686 rfl 0 rfl ?_
                                                                      refine r_iload_n (pc := 1687) (i := 3) dL_law_1687 rfl 3 rfl ?_
                                                                      refine r_iconst (pc := 1688) (v := 2) dL_law_1688 (by decide +kernel) ?_
                                                                      refine r_iadd (pc := 1689) dL_law_1689 ?_
                                                                      obtain ⟨c_266, h⟩ := og h
                                                                      refine r_xald (pc := 1690) rfl c_266 rfl dL_law_1690 ?_
                                                                      refine r_aload_n (pc := 1691) (i := 0) dL_law_1691 rfl 0 rfl ?_
                                                                      refine r_iload_n (pc := 1692) (i := 3) dL_law_1692 rfl 3 rfl ?_
                                                                      refine r_iconst (pc := 1693) (v := 3) dL_law_1693 (by decide +kernel) ?_
                                                                      refine r_iadd (pc := 1694) dL_law_1694 ?_
                                                                      obtain ⟨c_267, h⟩ := og h
                                                                      refine r_xald (pc := 1695) rfl c_267 rfl dL_law_1695 ?_
                                                                      obtain ⟨q_268, hq_268, h⟩ := ob h
                                                                      refine r_cVg (pc := 1696) (Y := xX11_drawn) (As := [.int (eI (xs (wI (x3 + 1)).toNat)), .int (eI (xs (wI (x3 + 2)).toNat)), .int (eI (xs (wI (x3 + 3)).toNat))]) (rest := []) (v := (some (.int (eI (q_268.1))))) (st1 := [.int (eI (q_268.1))]) ck_L_law_147 (kX11_drawn a1 (xs (wI (x3 + 1)).toNat) (xs (wI (x3 + 2)).toNat) (xs (wI (x3 + 3)).toNat) M oa1 hq_268) oa1 rfl rfl rfl rfl (Nat.le_of_ble_eq_true rfl) ⟨rfl, rfl⟩ hce rfl dL_law_1696 ?_
                                                                      refine r_aload_n (pc := 1699) (i := 2) dL_law_1699 rfl 2 rfl ?_
                                                                      refine r_aload_n (pc := 1700) (i := 0) dL_law_1700 rfl 0 rfl ?_
                                                                      refine r_iload_n (pc := 1701) (i := 3) dL_law_1701 rfl 3 rfl ?_
                                                                      refine r_iconst (pc := 1702) (v := 1) dL_law_1702 (by decide +kernel) ?_
                                                                      refine r_iadd (pc := 1703) dL_law_1703 ?_
                                                                      obtain ⟨c_269, h⟩ := og h
                                                                      refine r_xald (pc := 1704) rfl c_269 rfl dL_law_1704 ?_
                                                                      refine r_aload_n (pc := 1705) (i := 0) dL_law_1705 rfl 0 rfl ?_
                                                                      refine r_iload_n (pc := 1706) (i := 3) dL_law_1706 rfl 3 rfl ?_
                                                                      refine r_iconst (pc := 1707) (v := 2) dL_law_1707 (by decide +kernel) ?_
                                                                      refine r_iadd (pc := 1708) dL_law_1708 ?_
                                                                      obtain ⟨c_270, h⟩ := og h
                                                                      refine r_xald (pc := 1709) rfl c_270 rfl dL_law_1709 ?_
                                                                      refine r_aload_n (pc := 1710) (i := 0) dL_law_1710 rfl 0 rfl ?_
                                                                      refine r_iload_n (pc := 1711) (i := 3) dL_law_1711 rfl 3 rfl ?_
                                                                      refine r_iconst (pc := 1712) (v := 3) dL_law_1712 (by decide +kernel) ?_
                                                                      refine r_iadd (pc := 1713) dL_law_1713 ?_
                                                                      obtain ⟨c_271, h⟩ := og h
                                                                      refine r_xald (pc := 1714) rfl c_271 rfl dL_law_1714 ?_
                                                                      obtain ⟨q_272, hq_272, h⟩ := ob h
                                                                      refine r_cVg (pc := 1715) (Y := xX12_drawn) (As := [.int (eI (xs (wI (x3 + 1)).toNat)), .int (eI (xs (wI (x3 + 2)).toNat)), .int (eI (xs (wI (x3 + 3)).toNat))]) (rest := [.int (eI (q_268.1))]) (v := (some (.int (eI (q_272.1))))) (st1 := [.int (eI (q_272.1)), .int (eI (q_268.1))]) ck_L_law_150 (kX12_drawn a2 (xs (wI (x3 + 1)).toNat) (xs (wI (x3 + 2)).toNat) (xs (wI (x3 + 3)).toNat) q_268.2 oa2 hq_272) oa2 rfl rfl rfl rfl (Nat.le_of_ble_eq_true rfl) ⟨rfl, rfl⟩ hce rfl dL_law_1715 ?_
                                                                      refine r_icmp_eq (pc := 1718) (tgt := 1792) dL_law_1718 (by decide) rfl rfl (fun c_273 => ?_) (fun c_273 => ?_)
                                                                      · replace h := (if_pos c_273).symm.trans h
                                                                        refine r_sub (lv' := [(0, .ref c0), (1, .ref (gA G a1)), (2, .ref (gA G a2)), (3, .int (eI x3))]) [0, 1, 2, 3] rfl ?_
                                                                        exact bL_law_b1792 hce xs lx c0 a1 a2 oa1 oa2 _ _ (fun v0 v1 v2 => ih v0 v1 v2) h
                                                                      · replace h := (if_neg c_273).symm.trans h
                                                                        refine r_iconst (pc := 1721) (v := 0) dL_law_1721 (by decide +kernel) ?_
                                                                        cases h
                                                                    · replace h := (if_neg c_264).symm.trans h
                                                                      by_cases c_274 : wI ((xs (wI x3).toNat) % 64) = 32
                                                                      · replace h := (if_pos c_274).symm.trans h
                                                                        refine r_tsw (pc := 33) (tgt := 1723) (k' := 32) (rfl.trans c_274) dL_law_33 (by decide) rfl (by decide) ?_
                                                                        refine r_aload_n (pc := 1723) (i := 1) dL_law_1723 rfl 1 rfl ?_
                                                                        refine r_aload_n (pc := 1724) (i := 0) dL_law_1724 rfl 0 rfl ?_
                                                                        refine r_iload_n (pc := 1725) (i := 3) dL_law_1725 rfl 3 rfl ?_
                                                                        refine r_iconst (pc := 1726) (v := 1) dL_law_1726 (by decide +kernel) ?_
                                                                        refine r_iadd (pc := 1727) dL_law_1727 ?_
                                                                        obtain ⟨c_275, h⟩ := og h
                                                                        refine r_xald (pc := 1728) rfl c_275 rfl dL_law_1728 ?_
                                                                        obtain ⟨q_276, hq_276, h⟩ := ob h
                                                                        refine r_cVg (pc := 1729) (Y := xX11_count) (As := [.int (eI (xs (wI (x3 + 1)).toNat))]) (rest := []) (v := (some (.int (eI q_276)))) (st1 := [.int (eI q_276)]) ck_L_law_151 (kX11_count a1 (xs (wI (x3 + 1)).toNat) M oa1 hq_276) oa1 rfl rfl rfl rfl (Nat.le_of_ble_eq_true rfl) ⟨rfl, rfl⟩ hce rfl dL_law_1729 ?_
                                                                        refine r_aload_n (pc := 1732) (i := 2) dL_law_1732 rfl 2 rfl ?_
                                                                        refine r_aload_n (pc := 1733) (i := 0) dL_law_1733 rfl 0 rfl ?_
                                                                        refine r_iload_n (pc := 1734) (i := 3) dL_law_1734 rfl 3 rfl ?_
                                                                        refine r_iconst (pc := 1735) (v := 1) dL_law_1735 (by decide +kernel) ?_
                                                                        refine r_iadd (pc := 1736) dL_law_1736 ?_
                                                                        obtain ⟨c_277, h⟩ := og h
                                                                        refine r_xald (pc := 1737) rfl c_277 rfl dL_law_1737 ?_
                                                                        obtain ⟨q_278, hq_278, h⟩ := ob h
                                                                        refine r_cVg (pc := 1738) (Y := xX12_count) (As := [.int (eI (xs (wI (x3 + 1)).toNat))]) (rest := [.int (eI q_276)]) (v := (some (.int (eI (q_278.1))))) (st1 := [.int (eI (q_278.1)), .int (eI q_276)]) ck_L_law_154 (kX12_count a2 (xs (wI (x3 + 1)).toNat) M oa2 hq_278) oa2 rfl rfl rfl rfl (Nat.le_of_ble_eq_true rfl) ⟨rfl, rfl⟩ hce rfl dL_law_1738 ?_
                                                                        refine r_icmp_eq (pc := 1741) (tgt := 1792) dL_law_1741 (by decide) rfl rfl (fun c_279 => ?_) (fun c_279 => ?_)
                                                                        · replace h := (if_pos c_279).symm.trans h
                                                                          refine r_sub (lv' := [(0, .ref c0), (1, .ref (gA G a1)), (2, .ref (gA G a2)), (3, .int (eI x3))]) [0, 1, 2, 3] rfl ?_
                                                                          exact bL_law_b1792 hce xs lx c0 a1 a2 oa1 oa2 _ _ (fun v0 v1 v2 => ih v0 v1 v2) h
                                                                        · replace h := (if_neg c_279).symm.trans h
                                                                          refine r_iconst (pc := 1744) (v := 0) dL_law_1744 (by decide +kernel) ?_
                                                                          cases h
                                                                      · replace h := (if_neg c_274).symm.trans h
                                                                        by_cases c_280 : wI ((xs (wI x3).toNat) % 64) = 33
                                                                        · replace h := (if_pos c_280).symm.trans h
                                                                          refine r_tsw (pc := 33) (tgt := 1746) (k' := 33) (rfl.trans c_280) dL_law_33 (by decide) rfl (by decide) ?_
                                                                          refine r_aload_n (pc := 1746) (i := 1) dL_law_1746 rfl 1 rfl ?_
                                                                          refine r_aload_n (pc := 1747) (i := 0) dL_law_1747 rfl 0 rfl ?_
                                                                          refine r_iload_n (pc := 1748) (i := 3) dL_law_1748 rfl 3 rfl ?_
                                                                          refine r_iconst (pc := 1749) (v := 1) dL_law_1749 (by decide +kernel) ?_
                                                                          refine r_iadd (pc := 1750) dL_law_1750 ?_
                                                                          obtain ⟨c_281, h⟩ := og h
                                                                          refine r_xald (pc := 1751) rfl c_281 rfl dL_law_1751 ?_
                                                                          obtain ⟨q_282, hq_282, h⟩ := ob h
                                                                          refine r_cVg (pc := 1752) (Y := xX11_image) (As := [.int (eI (xs (wI (x3 + 1)).toNat))]) (rest := []) (v := (some (.int (eI (q_282.1))))) (st1 := [.int (eI (q_282.1))]) ck_L_law_155 (kX11_image a1 (xs (wI (x3 + 1)).toNat) M oa1 hq_282) oa1 rfl rfl rfl rfl (Nat.le_of_ble_eq_true rfl) ⟨rfl, rfl⟩ hce rfl dL_law_1752 ?_
                                                                          refine r_aload_n (pc := 1755) (i := 2) dL_law_1755 rfl 2 rfl ?_
                                                                          refine r_aload_n (pc := 1756) (i := 0) dL_law_1756 rfl 0 rfl ?_
                                                                          refine r_iload_n (pc := 1757) (i := 3) dL_law_1757 rfl 3 rfl ?_
                                                                          refine r_iconst (pc := 1758) (v := 1) dL_law_1758 (by decide +kernel) ?_
                                                                          refine r_iadd (pc := 1759) dL_law_1759 ?_
                                                                          obtain ⟨c_283, h⟩ := og h
                                                                          refine r_xald (pc := 1760) rfl c_283 rfl dL_law_1760 ?_
                                                                          obtain ⟨q_284, hq_284, h⟩ := ob h
                                                                          refine r_cVg (pc := 1761) (Y := xX12_image) (As := [.int (eI (xs (wI (x3 + 1)).toNat))]) (rest := [.int (eI (q_282.1))]) (v := (some (.int (eI (q_284.1))))) (st1 := [.int (eI (q_284.1)), .int (eI (q_282.1))]) ck_L_law_159 (kX12_image a2 (xs (wI (x3 + 1)).toNat) q_282.2 oa2 hq_284) oa2 rfl rfl rfl rfl (Nat.le_of_ble_eq_true rfl) ⟨rfl, rfl⟩ hce rfl dL_law_1761 ?_
                                                                          refine r_icmp_eq (pc := 1764) (tgt := 1792) dL_law_1764 (by decide) rfl rfl (fun c_285 => ?_) (fun c_285 => ?_)
                                                                          · replace h := (if_pos c_285).symm.trans h
                                                                            refine r_sub (lv' := [(0, .ref c0), (1, .ref (gA G a1)), (2, .ref (gA G a2)), (3, .int (eI x3))]) [0, 1, 2, 3] rfl ?_
                                                                            exact bL_law_b1792 hce xs lx c0 a1 a2 oa1 oa2 _ _ (fun v0 v1 v2 => ih v0 v1 v2) h
                                                                          · replace h := (if_neg c_285).symm.trans h
                                                                            refine r_iconst (pc := 1767) (v := 0) dL_law_1767 (by decide +kernel) ?_
                                                                            cases h
                                                                        · replace h := (if_neg c_280).symm.trans h
                                                                          by_cases c_286 : wI ((xs (wI x3).toNat) % 64) = 34
                                                                          · replace h := (if_pos c_286).symm.trans h
                                                                            refine r_tsw (pc := 33) (tgt := 1769) (k' := 34) (rfl.trans c_286) dL_law_33 (by decide) rfl (by decide) ?_
                                                                            refine r_aload_n (pc := 1769) (i := 1) dL_law_1769 rfl 1 rfl ?_
                                                                            refine r_aload_n (pc := 1770) (i := 0) dL_law_1770 rfl 0 rfl ?_
                                                                            refine r_iload_n (pc := 1771) (i := 3) dL_law_1771 rfl 3 rfl ?_
                                                                            refine r_iconst (pc := 1772) (v := 1) dL_law_1772 (by decide +kernel) ?_
                                                                            refine r_iadd (pc := 1773) dL_law_1773 ?_
                                                                            obtain ⟨c_287, h⟩ := og h
                                                                            refine r_xald (pc := 1774) rfl c_287 rfl dL_law_1774 ?_
                                                                            obtain ⟨q_288, hq_288, h⟩ := ob h
                                                                            refine r_cVg (pc := 1775) (Y := xX11_again) (As := [.int (eI (xs (wI (x3 + 1)).toNat))]) (rest := []) (v := (some (.int (eI (q_288.1))))) (st1 := [.int (eI (q_288.1))]) ck_L_law_160 (kX11_again a1 (xs (wI (x3 + 1)).toNat) M oa1 hq_288) oa1 rfl rfl rfl rfl (Nat.le_of_ble_eq_true rfl) ⟨rfl, rfl⟩ hce rfl dL_law_1775 ?_
                                                                            refine r_aload_n (pc := 1778) (i := 2) dL_law_1778 rfl 2 rfl ?_
                                                                            refine r_aload_n (pc := 1779) (i := 0) dL_law_1779 rfl 0 rfl ?_
                                                                            refine r_iload_n (pc := 1780) (i := 3) dL_law_1780 rfl 3 rfl ?_
                                                                            refine r_iconst (pc := 1781) (v := 1) dL_law_1781 (by decide +kernel) ?_
                                                                            refine r_iadd (pc := 1782) dL_law_1782 ?_
                                                                            obtain ⟨c_289, h⟩ := og h
                                                                            refine r_xald (pc := 1783) rfl c_289 rfl dL_law_1783 ?_
                                                                            obtain ⟨q_290, hq_290, h⟩ := ob h
                                                                            refine r_cVg (pc := 1784) (Y := xX12_again) (As := [.int (eI (xs (wI (x3 + 1)).toNat))]) (rest := [.int (eI (q_288.1))]) (v := (some (.int (eI (q_290.1))))) (st1 := [.int (eI (q_290.1)), .int (eI (q_288.1))]) ck_L_law_163 (kX12_again a2 (xs (wI (x3 + 1)).toNat) q_288.2 oa2 hq_290) oa2 rfl rfl rfl rfl (Nat.le_of_ble_eq_true rfl) ⟨rfl, rfl⟩ hce rfl dL_law_1784 ?_
                                                                            refine r_icmp_eq (pc := 1787) (tgt := 1792) dL_law_1787 (by decide) rfl rfl (fun c_291 => ?_) (fun c_291 => ?_)
                                                                            · replace h := (if_pos c_291).symm.trans h
                                                                              refine r_sub (lv' := [(0, .ref c0), (1, .ref (gA G a1)), (2, .ref (gA G a2)), (3, .int (eI x3))]) [0, 1, 2, 3] rfl ?_
                                                                              exact bL_law_b1792 hce xs lx c0 a1 a2 oa1 oa2 _ _ (fun v0 v1 v2 => ih v0 v1 v2) h
                                                                            · replace h := (if_neg c_291).symm.trans h
                                                                              refine r_iconst (pc := 1790) (v := 0) dL_law_1790 (by decide +kernel) ?_
                                                                              cases h
                                                                          · replace h := (if_neg c_286).symm.trans h
                                                                            refine r_tswD (pc := 33) (tgt := 1792) rfl dL_law_33 (by omega) (by decide) ?_
                                                                            refine r_sub (lv' := [(0, .ref c0), (1, .ref (gA G a1)), (2, .ref (gA G a2)), (3, .int (eI x3))]) [0, 1, 2, 3] rfl ?_
                                                                            exact bL_law_b1792 hce xs lx c0 a1 a2 oa1 oa2 _ _ (fun v0 v1 v2 => ih v0 v1 v2) h
