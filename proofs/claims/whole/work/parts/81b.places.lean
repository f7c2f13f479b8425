theorem x_pl {big ws : List Cond} (ps : List Nat) (hp : ws = ps.filterMap (fun i => big[i]?)) : ∀ w ∈ ws, w ∈ big := by
  intro w hw
  rw [hp] at hw
  obtain ⟨i, -, hi⟩ := List.mem_filterMap.mp hw
  exact List.mem_of_getElem? hi
set_option maxRecDepth 100000 in
theorem iq1 : ∀ w ∈ wsL_law_r1, w ∈ lw_tbl := x_pl [193, 194, 173, 1577, 1578, 190, 2393, 195, 196, 197, 198, 199, 200, 224, 813, 814, 818, 201, 202, 174, 819, 820, 331, 332] (by decide +kernel)
set_option maxRecDepth 100000 in
theorem iq2 : ∀ w ∈ wsL_law_r2, w ∈ lw_tbl := x_pl [176, 821, 822, 823, 458, 459, 177, 826, 581, 582, 183, 827, 627, 628, 185, 828, 656, 657, 186, 829, 688, 689, 187, 830] (by decide +kernel)
set_option maxRecDepth 100000 in
theorem iq3 : ∀ w ∈ wsL_law_r3, w ∈ lw_tbl := x_pl [728, 729, 188, 831, 811, 735, 189, 832, 203, 204, 205, 206, 225, 250, 253, 256, 258, 261, 264, 267, 270, 226, 273, 207] (by decide +kernel)
set_option maxRecDepth 100000 in
theorem iq4 : ∀ w ∈ wsL_law_r4, w ∈ lw_tbl := x_pl [208, 175, 275, 279, 330, 283, 286, 232, 236, 239, 209, 210, 211, 212, 214, 215, 216, 213, 334, 335, 336, 342, 348, 352] (by decide +kernel)
set_option maxRecDepth 100000 in
theorem iq5 : ∀ w ∈ wsL_law_r5, w ∈ lw_tbl := x_pl [356, 362, 367, 373, 379, 385, 388, 391, 394, 400, 403, 406, 411, 415, 461, 462, 463, 464, 465, 178, 549, 550, 551, 552] (by decide +kernel)
set_option maxRecDepth 100000 in
theorem iq6 : ∀ w ∈ wsL_law_r6, w ∈ lw_tbl := x_pl [553, 554, 555, 466, 467, 468, 469, 522, 524, 526, 530, 471, 472, 473, 179, 474, 2394, 475, 476, 477, 478, 479, 2395, 481] (by decide +kernel)
set_option maxRecDepth 100000 in
theorem iq7 : ∀ w ∈ wsL_law_r7, w ∈ lw_tbl := x_pl [482, 483, 484, 485, 486, 487, 488, 489, 490, 180, 491, 492, 493, 494, 495, 497, 498, 181, 499, 500, 501, 182, 502, 503] (by decide +kernel)
set_option maxRecDepth 100000 in
theorem iq8 : ∀ w ∈ wsL_law_r8, w ∈ lw_tbl := x_pl [504, 505, 506, 507, 508, 509, 510, 511, 512, 513, 515, 517, 519, 520, 521, 583, 584, 585, 586, 593, 594, 595, 596, 597] (by decide +kernel)
set_option maxRecDepth 100000 in
theorem iq9 : ∀ w ∈ wsL_law_r9, w ∈ lw_tbl := x_pl [598, 599, 600, 601, 587, 588, 184, 589, 630, 631, 632, 659, 660, 661, 670, 691, 692, 693, 696, 697, 700, 701, 702, 704] (by decide +kernel)
set_option maxRecDepth 100000 in
theorem iq10 : ∀ w ∈ wsL_law_r10, w ∈ lw_tbl := x_pl [730, 731, 732, 733, 753, 734, 755, 759, 760, 761, 762, 763, 764, 765, 766, 737, 738, 739, 743, 745, 1579, 1580, 1581, 1582] (by decide +kernel)
set_option maxRecDepth 100000 in
theorem iq11 : ∀ w ∈ wsL_law_r11, w ∈ lw_tbl := x_pl [1776, 1778, 1779, 1782, 1783, 1792, 1793, 1795, 1796, 1797, 1798, 1799, 1801, 1803, 1804, 1805, 1806, 1807, 1808, 1810, 1811, 1812, 1813, 1814] (by decide +kernel)
set_option maxRecDepth 100000 in
theorem iq12 : ∀ w ∈ wsL_law_r12, w ∈ lw_tbl := x_pl [1815, 1817, 1819, 1820, 1821, 1823, 1824, 1825, 1583, 1827, 1828, 1829, 1830, 1832, 1833, 1834, 1835, 1836, 1837, 1838, 1839, 1840, 1841, 1842] (by decide +kernel)
set_option maxRecDepth 100000 in
theorem iq13 : ∀ w ∈ wsL_law_r13, w ∈ lw_tbl := x_pl [1843, 1844, 1845, 1846, 1847, 1848, 1849, 1850, 1851, 1852, 1853, 1854, 1855, 1856, 1858, 1859, 1860, 1861, 1862, 1873, 1875, 1876, 1877, 1878] (by decide +kernel)
set_option maxRecDepth 100000 in
theorem iq14 : ∀ w ∈ wsL_law_r14, w ∈ lw_tbl := x_pl [1879, 1881, 1882, 1883, 1884, 1885, 1777, 1585, 1586, 1587, 1588, 1589, 1590, 1775, 1784, 1790, 1781, 1791, 1864, 1591, 1593, 93, 1594, 1785] (by decide +kernel)
set_option maxRecDepth 100000 in
theorem iq15 : ∀ w ∈ wsL_law_r15, w ∈ lw_tbl := x_pl [1794, 1800, 1802, 1809, 1816, 1818, 1786, 1787, 1595, 1597, 94, 1598, 1599, 1601, 95, 1602, 1603, 1604, 1605, 1606, 1607, 1608, 1609, 1610] (by decide +kernel)
set_option maxRecDepth 100000 in
theorem iq16 : ∀ w ∈ wsL_law_r16, w ∈ lw_tbl := x_pl [1611, 1612, 1614, 96, 1615, 1616, 1618, 97, 1619, 1788, 1620, 1621, 1622, 1624, 98, 1625, 1626, 1627, 1628, 1789, 1629, 1630, 1632, 1634] (by decide +kernel)
set_option maxRecDepth 100000 in
theorem iq17 : ∀ w ∈ wsL_law_r17, w ∈ lw_tbl := x_pl [99, 1635, 1636, 1637, 1638, 1639, 1641, 100, 1642, 1666, 1643, 1645, 101, 1646, 1658, 1660, 102, 1661, 1662, 1664, 103, 1665, 1667, 1669] (by decide +kernel)
set_option maxRecDepth 100000 in
theorem iq18 : ∀ w ∈ wsL_law_r18, w ∈ lw_tbl := x_pl [104, 1670, 1671, 1673, 105, 1674, 1675, 1677, 106, 1678, 1683, 1679, 1681, 107, 1682, 1684, 1686, 108, 1687, 1688, 1690, 109, 1691, 1692] (by decide +kernel)
set_option maxRecDepth 100000 in
theorem iq19 : ∀ w ∈ wsL_law_r19, w ∈ lw_tbl := x_pl [1694, 110, 1695, 1696, 1698, 111, 1699, 1700, 1702, 112, 1703, 1704, 1706, 113, 1707, 1822, 1718, 1708, 1710, 114, 1711, 1712, 1713, 1714] (by decide +kernel)
set_option maxRecDepth 100000 in
theorem iq20 : ∀ w ∈ wsL_law_r20, w ∈ lw_tbl := x_pl [1716, 115, 1717, 1719, 1721, 116, 1722, 1723, 1725, 117, 1726, 1826, 1727, 1729, 118, 1730, 1731, 1733, 119, 1734, 1735, 1737, 120, 1738] (by decide +kernel)
set_option maxRecDepth 100000 in
theorem iq21 : ∀ w ∈ wsL_law_r21, w ∈ lw_tbl := x_pl [1739, 1741, 121, 1742, 1743, 1745, 122, 1746, 1747, 1749, 123, 1750, 1751, 1753, 124, 1754, 1755, 1757, 125, 1758, 1831, 1759, 1761, 126] (by decide +kernel)
set_option maxRecDepth 100000 in
theorem iq22 : ∀ w ∈ wsL_law_r22, w ∈ lw_tbl := x_pl [1762, 1763, 1765, 127, 1766, 1767, 1769, 128, 1770, 1771, 1772, 1773, 1774, 1874, 874, 875, 876, 877, 815, 2124, 2125, 2126, 2127, 2128] (by decide +kernel)
set_option maxRecDepth 100000 in
theorem iq23 : ∀ w ∈ wsL_law_r23, w ∈ lw_tbl := x_pl [878, 879, 880, 881, 2129, 2130, 2131, 2132, 882, 883, 884, 885, 2133, 2134, 2135, 2136, 886, 887, 888, 889, 816, 890, 892, 891] (by decide +kernel)
set_option maxRecDepth 100000 in
theorem iq24 : ∀ w ∈ wsL_law_r24, w ∈ lw_tbl := x_pl [191, 2137, 2138, 2139, 2140, 1780, 893, 894, 895, 896, 543, 817, 545, 278, 399, 825, 897, 898, 899, 900, 548, 546, 542, 544] (by decide +kernel)
set_option maxRecDepth 100000 in
theorem iq25 : ∀ w ∈ wsL_law_r25, w ∈ lw_tbl := x_pl [233, 228, 901, 902, 903, 904, 528, 938, 939, 192, 940, 905, 907, 0, 908, 909, 910, 911, 912, 913, 914, 915, 916, 917] (by decide +kernel)
set_option maxRecDepth 100000 in
theorem iq26 : ∀ w ∈ wsL_law_r26, w ∈ lw_tbl := x_pl [918, 920, 1, 921, 922, 924, 2, 925, 926, 928, 3, 929, 930, 931, 932, 933, 934, 935, 936, 937, 941, 942, 943, 944] (by decide +kernel)
set_option maxRecDepth 100000 in
theorem iq27 : ∀ w ∈ wsL_law_r27, w ∈ lw_tbl := x_pl [227, 243, 246, 945, 947, 4, 948, 523, 949, 951, 5, 952, 953, 955, 6, 956, 525, 957, 959, 7, 960, 527, 961, 963] (by decide +kernel)
set_option maxRecDepth 100000 in
theorem iq28 : ∀ w ∈ wsL_law_r28, w ∈ lw_tbl := x_pl [8, 964, 255, 245, 965, 967, 9, 968, 969, 971, 10, 972, 973, 975, 11, 976, 257, 547, 263, 247, 977, 979, 12, 980] (by decide +kernel)
set_option maxRecDepth 100000 in
theorem iq29 : ∀ w ∈ wsL_law_r29, w ∈ lw_tbl := x_pl [981, 983, 13, 984, 529, 989, 990, 269, 272, 274, 985, 987, 14, 988, 266, 991, 993, 15, 994, 252, 995, 997, 16, 998] (by decide +kernel)
set_option maxRecDepth 100000 in
theorem iq30 : ∀ w ∈ wsL_law_r30, w ∈ lw_tbl := x_pl [260, 999, 1001, 17, 1002, 1003, 1004, 1005, 1006, 1007, 1008, 1009, 1010, 248, 1015, 1011, 1012, 1013, 1014, 1016, 1018, 18, 1019, 1020] (by decide +kernel)
set_option maxRecDepth 100000 in
theorem iq31 : ∀ w ∈ wsL_law_r31, w ∈ lw_tbl := x_pl [1021, 1023, 19, 1024, 1025, 1026, 1027, 1028, 1029, 1031, 20, 1032, 230, 1033, 251, 244, 262, 265, 271, 268, 1034, 1035, 1036, 1037] (by decide +kernel)
set_option maxRecDepth 100000 in
theorem iq32 : ∀ w ∈ wsL_law_r32, w ∈ lw_tbl := x_pl [1038, 1039, 1041, 21, 1042, 1043, 1044, 1045, 1046, 1047, 590, 276, 591, 1048, 1049, 1050, 1051, 1052, 1054, 22, 1055, 234, 229, 1056] (by decide +kernel)
set_option maxRecDepth 100000 in
theorem iq33 : ∀ w ∈ wsL_law_r33, w ∈ lw_tbl := x_pl [1057, 1058, 1059, 1060, 1061, 1062, 1063, 1064, 1065, 1067, 23, 1068, 1069, 1070, 1072, 24, 1073, 254, 259, 1074, 1075, 1076, 1077, 1078] (by decide +kernel)
set_option maxRecDepth 100000 in
theorem iq34 : ∀ w ∈ wsL_law_r34, w ∈ lw_tbl := x_pl [1079, 1081, 25, 1082, 1083, 1085, 26, 1086, 237, 1087, 1089, 27, 1090, 1091, 1093, 28, 1094, 1095, 1097, 29, 1098, 592, 1099, 1101] (by decide +kernel)
set_option maxRecDepth 100000 in
theorem iq35 : ∀ w ∈ wsL_law_r35, w ∈ lw_tbl := x_pl [30, 1102, 1107, 1103, 1105, 31, 1106, 1108, 1110, 32, 1111, 241, 281, 1112, 1114, 33, 1115, 1116, 1118, 34, 1119, 285, 288, 1120] (by decide +kernel)
set_option maxRecDepth 100000 in
theorem iq36 : ∀ w ∈ wsL_law_r36, w ∈ lw_tbl := x_pl [1121, 1122, 1123, 1124, 1125, 1126, 1127, 1128, 1129, 1130, 1131, 740, 1132, 2145, 1133, 1134, 1135, 1136, 634, 663, 824, 1137, 1138, 1139] (by decide +kernel)
set_option maxRecDepth 100000 in
theorem iq37 : ∀ w ∈ wsL_law_r37, w ∈ lw_tbl := x_pl [1140, 636, 637, 635, 633, 640, 639, 339, 638, 1141, 1142, 1143, 1144, 337, 398, 1145, 1147, 35, 1148, 1149, 1151, 1153, 36, 1154] (by decide +kernel)
set_option maxRecDepth 100000 in
theorem iq38 : ∀ w ∈ wsL_law_r38, w ∈ lw_tbl := x_pl [1155, 1157, 37, 1158, 1159, 1161, 38, 1162, 343, 349, 353, 357, 1163, 1164, 1165, 1166, 1167, 1169, 39, 1170, 365, 1171, 376, 382] (by decide +kernel)
set_option maxRecDepth 100000 in
theorem iq39 : ∀ w ∈ wsL_law_r39, w ∈ lw_tbl := x_pl [1173, 1175, 40, 1176, 1177, 1178, 1179, 1181, 41, 1182, 392, 1183, 1185, 42, 1186, 369, 1187, 1189, 43, 1190, 401, 404, 408, 412] (by decide +kernel)
set_option maxRecDepth 100000 in
theorem iq40 : ∀ w ∈ wsL_law_r40, w ∈ lw_tbl := x_pl [416, 1191, 1192, 1193, 1194, 665, 664, 662, 386, 389, 338, 666, 1195, 1196, 1198, 44, 1199, 364, 669, 1200, 1202, 45, 1203, 1204] (by decide +kernel)
set_option maxRecDepth 100000 in
theorem iq41 : ∀ w ∈ wsL_law_r41, w ∈ lw_tbl := x_pl [1205, 1206, 1207, 1209, 46, 1210, 1211, 1213, 47, 1214, 375, 667, 668, 381, 368, 407, 1215, 1217, 48, 1218, 354, 358, 1219, 1221] (by decide +kernel)
set_option maxRecDepth 100000 in
theorem iq42 : ∀ w ∈ wsL_law_r42, w ∈ lw_tbl := x_pl [49, 1222, 1223, 1225, 50, 1226, 1227, 1229, 51, 1230, 1231, 1233, 52, 1234, 1235, 1237, 53, 1238, 344, 1239, 1241, 54, 1242, 1243] (by decide +kernel)
set_option maxRecDepth 100000 in
theorem iq43 : ∀ w ∈ wsL_law_r43, w ∈ lw_tbl := x_pl [1245, 55, 1246, 1247, 1248, 1249, 1250, 1251, 1252, 1253, 1254, 1255, 1256, 2171, 2172, 2173, 2174, 2175, 2177, 131, 2178, 1888, 2179, 2181] (by decide +kernel)
set_option maxRecDepth 100000 in
theorem iq44 : ∀ w ∈ wsL_law_r44, w ∈ lw_tbl := x_pl [132, 2182, 2183, 2185, 133, 2186, 2187, 2189, 134, 2190, 2191, 2193, 135, 2194, 2195, 2197, 136, 2198, 2199, 2201, 137, 2202, 2203, 2205] (by decide +kernel)
set_option maxRecDepth 100000 in
theorem iq45 : ∀ w ∈ wsL_law_r45, w ∈ lw_tbl := x_pl [138, 2206, 1889, 1890, 2207, 2209, 139, 2210, 2211, 2213, 140, 2214, 2215, 2217, 141, 2218, 2219, 2221, 142, 2222, 2223, 2225, 143, 2226] (by decide +kernel)
set_option maxRecDepth 100000 in
theorem iq46 : ∀ w ∈ wsL_law_r46, w ∈ lw_tbl := x_pl [2227, 2229, 144, 2230, 1257, 1258, 1259, 1260, 1261, 1263, 56, 1264, 1265, 1267, 57, 1268, 1269, 1270, 1271, 1272, 1278, 1277, 1273, 1274] (by decide +kernel)
set_option maxRecDepth 100000 in
theorem iq47 : ∀ w ∈ wsL_law_r47, w ∈ lw_tbl := x_pl [1275, 1276, 1279, 1280, 1281, 1282, 1284, 58, 1285, 2274, 2275, 2276, 2277, 2278, 2280, 153, 2281, 2267, 2268, 2269, 1286, 1287, 1288, 1289] (by decide +kernel)
set_option maxRecDepth 100000 in
theorem iq48 : ∀ w ∈ wsL_law_r48, w ∈ lw_tbl := x_pl [1290, 1291, 1292, 1293, 1294, 1295, 1296, 1297, 397, 694, 695, 1314, 699, 698, 1298, 1300, 59, 1301, 395, 703, 340, 363, 374, 1302] (by decide +kernel)
set_option maxRecDepth 100000 in
theorem iq49 : ∀ w ∈ wsL_law_r49, w ∈ lw_tbl := x_pl [1303, 1304, 1305, 1307, 60, 1308, 1309, 1310, 1312, 61, 1313, 1315, 1317, 62, 1318, 380, 1319, 1321, 63, 1322, 1323, 1325, 64, 1326] (by decide +kernel)
set_option maxRecDepth 100000 in
theorem iq50 : ∀ w ∈ wsL_law_r50, w ∈ lw_tbl := x_pl [1327, 1329, 65, 1330, 1331, 1332, 1333, 1334, 1335, 1337, 66, 1338, 240, 284, 1339, 1340, 1341, 1342, 1344, 67, 1345, 370, 409, 1346] (by decide +kernel)
set_option maxRecDepth 100000 in
theorem iq51 : ∀ w ∈ wsL_law_r51, w ∈ lw_tbl := x_pl [1347, 1348, 1349, 1350, 1351, 1352, 1353, 1354, 1356, 68, 1357, 1358, 1359, 1360, 1361, 249, 287, 1362, 1364, 69, 1365, 345, 350, 355] (by decide +kernel)
set_option maxRecDepth 100000 in
theorem iq52 : ∀ w ∈ wsL_law_r52, w ∈ lw_tbl := x_pl [359, 1366, 1367, 1369, 70, 1370, 393, 1371, 1373, 71, 1374, 402, 405, 413, 417, 1375, 2259, 2260, 2261, 2262, 2235, 2237, 145, 2238] (by decide +kernel)
set_option maxRecDepth 100000 in
theorem iq53 : ∀ w ∈ wsL_law_r53, w ∈ lw_tbl := x_pl [1857, 2239, 2241, 146, 2242, 2243, 2245, 147, 2246, 2247, 2249, 148, 2250, 2251, 2253, 149, 2254, 2255, 2257, 150, 2258, 2263, 2265, 151] (by decide +kernel)
set_option maxRecDepth 100000 in
theorem iq54 : ∀ w ∈ wsL_law_r54, w ∈ lw_tbl := x_pl [2266, 2270, 2272, 152, 2273, 1376, 1377, 1378, 1379, 341, 366, 1380, 1381, 1382, 1383, 2231, 2232, 2233, 2234, 1384, 1385, 1386, 1387, 1388] (by decide +kernel)
set_option maxRecDepth 100000 in
theorem iq55 : ∀ w ∈ wsL_law_r55, w ∈ lw_tbl := x_pl [1389, 1390, 1391, 757, 2282, 2283, 2284, 2285, 1863, 1392, 1393, 1394, 1395, 758, 2286, 2287, 2288, 2289, 1396, 1397, 1398, 1399, 754, 1400] (by decide +kernel)
set_option maxRecDepth 100000 in
theorem iq56 : ∀ w ∈ wsL_law_r56, w ∈ lw_tbl := x_pl [1401, 1402, 1403, 767, 768, 769, 770, 773, 1411, 741, 1404, 1405, 1406, 1408, 72, 1409, 346, 772, 771, 1410, 1412, 1414, 73, 1415] (by decide +kernel)
set_option maxRecDepth 100000 in
theorem iq57 : ∀ w ∈ wsL_law_r57, w ∈ lw_tbl := x_pl [377, 383, 1416, 1418, 74, 1419, 1420, 1422, 75, 1423, 1424, 1426, 76, 1427, 1428, 1429, 1430, 1431, 1432, 280, 277, 1433, 1434, 1435] (by decide +kernel)
set_option maxRecDepth 100000 in
theorem iq58 : ∀ w ∈ wsL_law_r58, w ∈ lw_tbl := x_pl [1436, 1437, 1439, 77, 1440, 1441, 1442, 1443, 1444, 1446, 1445, 1447, 1449, 78, 1450, 1451, 1453, 79, 1454, 1455, 1457, 80, 1458, 1459] (by decide +kernel)
set_option maxRecDepth 100000 in
theorem iq59 : ∀ w ∈ wsL_law_r59, w ∈ lw_tbl := x_pl [1461, 81, 1462, 1463, 1465, 82, 1466, 410, 1467, 1469, 83, 1470, 371, 414, 418, 1471, 1472, 1474, 84, 1475, 1476, 1477, 1478, 1479] (by decide +kernel)
set_option maxRecDepth 100000 in
theorem iq60 : ∀ w ∈ wsL_law_r60, w ∈ lw_tbl := x_pl [1481, 85, 1482, 1483, 1485, 86, 1486, 1487, 1489, 87, 1490, 1491, 1493, 88, 1494, 1495, 1497, 89, 1498, 1499, 1501, 90, 1502, 360] (by decide +kernel)
set_option maxRecDepth 100000 in
theorem iq61 : ∀ w ∈ wsL_law_r61, w ∈ lw_tbl := x_pl [2290, 2291, 2292, 2293, 1887, 1865, 1866, 1867, 1868, 1869, 1870, 1880, 1872, 1886, 1871, 2294, 2296, 154, 2297, 2298, 2300, 155, 2301, 2302] (by decide +kernel)
set_option maxRecDepth 100000 in
theorem iq62 : ∀ w ∈ wsL_law_r62, w ∈ lw_tbl := x_pl [2304, 156, 2305, 2306, 2308, 157, 2309, 2151, 2153, 129, 2154, 2310, 2312, 158, 2313, 2155, 2157, 130, 2158, 2314, 2316, 159, 2317, 2318] (by decide +kernel)
set_option maxRecDepth 100000 in
theorem iq63 : ∀ w ∈ wsL_law_r63, w ∈ lw_tbl := x_pl [2320, 160, 2321, 2322, 2324, 161, 2325, 2326, 2328, 162, 2329, 2330, 2332, 163, 2333, 2334, 2335, 2336, 2337, 2339, 164, 2340, 2341, 2343] (by decide +kernel)
set_option maxRecDepth 100000 in
theorem iq64 : ∀ w ∈ wsL_law_r64, w ∈ lw_tbl := x_pl [165, 2344, 2345, 2347, 166, 2348, 2349, 2351, 167, 2352, 2353, 2355, 168, 2356, 2357, 2359, 169, 2360, 1503, 1504, 1505, 1506, 1507, 1508] (by decide +kernel)
set_option maxRecDepth 100000 in
theorem iq65 : ∀ w ∈ wsL_law_r65, w ∈ lw_tbl := x_pl [1509, 1510, 2361, 2362, 2363, 2364, 1511, 1512, 1513, 1514, 1515, 1516, 1517, 1518, 2365, 2366, 2367, 2368, 1519, 1520, 1521, 1522, 231, 744] (by decide +kernel)
set_option maxRecDepth 100000 in
theorem iq66 : ∀ w ∈ wsL_law_r66, w ∈ lw_tbl := x_pl [756, 2159, 2160, 2161, 2162, 1523, 1524, 1525, 1526, 2146, 1527, 1528, 1529, 1530, 742, 1531, 2147, 2148, 2149, 2150, 1532, 1533, 1534, 1535] (by decide +kernel)
set_option maxRecDepth 100000 in
theorem iq67 : ∀ w ∈ wsL_law_r67, w ∈ lw_tbl := x_pl [242, 282, 1536, 2163, 2164, 2165, 2166, 1537, 1538, 1539, 1540, 1541, 1542, 2167, 2168, 2169, 2170, 1543, 1544, 1545, 1546, 378, 384, 387] (by decide +kernel)
set_option maxRecDepth 100000 in
theorem iq68 : ∀ w ∈ wsL_law_r68, w ∈ lw_tbl := x_pl [390, 1547, 1549, 91, 1550, 1551, 1553, 92, 1554, 1555, 1556, 2369, 2370, 2371, 2372, 2373, 2375, 170, 2376, 1557, 1558, 1559, 1560, 396] (by decide +kernel)
set_option maxRecDepth 100000 in
theorem iq69 : ∀ w ∈ wsL_law_r69, w ∈ lw_tbl := x_pl [2377, 2378, 2379, 2380, 1561, 1562, 1563, 1564, 347, 351, 361, 372, 2381, 2382, 2383, 2384, 1565, 1566, 1567, 1568, 2141, 2142, 2143, 2144] (by decide +kernel)
set_option maxRecDepth 100000 in
theorem iq70 : ∀ w ∈ wsL_law_r70, w ∈ lw_tbl := x_pl [1569, 1570, 1571, 1572, 235, 238, 1573, 1574, 1575, 1576, 2385, 2386, 2387, 2388, 2389, 2391, 171, 2392] (by decide +kernel)
set_option maxRecDepth 100000 in
theorem iu11 : ∀ w ∈ wsX110, w ∈ lw_tbl := x_pl [833, 835, 837, 839, 841, 843, 845, 847, 849, 851, 853, 855, 857, 859, 861, 863, 865, 867, 869, 871] (by decide +kernel)
set_option maxRecDepth 100000 in
theorem iu12 : ∀ w ∈ wsX120, w ∈ lw_tbl := x_pl [1891, 1893, 1895, 1897, 1899, 1901, 1903, 1905, 1907, 1909, 1911, 1913, 1915, 1917, 1919, 1921, 1923, 1925, 1927, 1929, 1931, 1933, 1935, 1937, 1939, 1941, 1943, 1945, 1947, 1949, 1951, 1953, 1955, 1957, 1959, 1961, 1963, 1965, 1967, 1969, 1971, 1973, 1975, 1977, 1979, 1981, 1983, 1985, 1987, 1989, 1991, 1993, 1995, 1997, 1999, 2001, 2003, 2005, 2007, 2009, 2011, 2013, 2015, 2017, 2019, 2021, 2023, 2025, 2027, 2029, 2031, 2033, 2035, 2037, 2039, 2041, 2043, 2045, 2047, 2049, 2051, 2053, 2055, 2057, 2059, 2061, 2063, 2065, 2067, 2069, 2071, 2073, 2075, 2077, 2079, 2081, 2083, 2085, 2087, 2089, 2091, 2093, 2095, 2097, 2099, 2101, 2103, 2105, 2107, 2109, 2111, 2113, 2115, 2117, 2119, 2121] (by decide +kernel)
set_option maxRecDepth 100000 in
theorem iu3 : ∀ w ∈ wsX30, w ∈ lw_tbl := x_pl [289, 291, 293, 295, 297, 299, 301, 303, 305, 307, 309, 311, 313, 315, 317, 319, 321, 323, 325, 327] (by decide +kernel)
set_option maxRecDepth 100000 in
theorem iu5 : ∀ w ∈ wsX50, w ∈ lw_tbl := x_pl [419, 421, 423, 425, 427, 429, 431, 433, 435, 437, 439, 441, 443, 445, 447, 449, 451, 453, 455] (by decide +kernel)
set_option maxRecDepth 100000 in
theorem iu4 : ∀ w ∈ wsX40, w ∈ lw_tbl := x_pl [556, 558, 560, 562, 564, 566, 568, 570, 572, 574, 576, 578] (by decide +kernel)
set_option maxRecDepth 100000 in
theorem iu7 : ∀ w ∈ wsX70, w ∈ lw_tbl := x_pl [602, 604, 606, 608, 610, 612, 614, 616, 618, 620, 622, 624] (by decide +kernel)
set_option maxRecDepth 100000 in
theorem iu6 : ∀ w ∈ wsX60, w ∈ lw_tbl := x_pl [641, 643, 645, 647, 649, 651, 653] (by decide +kernel)
set_option maxRecDepth 100000 in
theorem iu9 : ∀ w ∈ wsX90, w ∈ lw_tbl := x_pl [671, 673, 675, 677, 679, 681, 683, 685] (by decide +kernel)
set_option maxRecDepth 100000 in
theorem iu0 : ∀ w ∈ wsX00, w ∈ lw_tbl := x_pl [705, 707, 709, 711, 713, 715, 717, 719, 721, 723, 725] (by decide +kernel)
set_option maxRecDepth 100000 in
theorem iu2 : ∀ w ∈ wsX20, w ∈ lw_tbl := x_pl [774, 776, 778, 780, 782, 784, 786, 788, 790, 792, 794, 796, 798, 800, 802, 804, 806, 808] (by decide +kernel)
set_option maxRecDepth 100000 in
theorem iu10 : ∀ w ∈ wsX100, w ∈ lw_tbl := x_pl [746, 748, 750] (by decide +kernel)
set_option maxRecDepth 100000 in
theorem iu1 : ∀ w ∈ wsX10, w ∈ lw_tbl := x_pl [217, 219, 221] (by decide +kernel)
set_option maxRecDepth 100000 in
theorem iu8 : ∀ w ∈ wsX80, w ∈ lw_tbl := x_pl [531, 533, 535, 537, 539] (by decide +kernel)
theorem wsL_law_in : ∀ w ∈ wsL_law, w ∈ lw_tbl := (List.forall_mem_append.mpr ⟨(List.forall_mem_append.mpr ⟨(List.forall_mem_append.mpr ⟨(List.forall_mem_append.mpr ⟨(List.forall_mem_append.mpr ⟨(List.forall_mem_append.mpr ⟨(List.forall_mem_append.mpr ⟨(List.forall_mem_append.mpr ⟨(List.forall_mem_append.mpr ⟨(List.forall_mem_append.mpr ⟨(List.forall_mem_append.mpr ⟨(List.forall_mem_append.mpr ⟨(List.forall_mem_append.mpr ⟨(List.forall_mem_append.mpr ⟨(List.forall_mem_append.mpr ⟨iq1, (List.forall_mem_append.mpr ⟨iq2, (List.forall_mem_append.mpr ⟨iq3, (List.forall_mem_append.mpr ⟨iq4, (List.forall_mem_append.mpr ⟨iq5, (List.forall_mem_append.mpr ⟨iq6, (List.forall_mem_append.mpr ⟨iq7, (List.forall_mem_append.mpr ⟨iq8, (List.forall_mem_append.mpr ⟨iq9, (List.forall_mem_append.mpr ⟨iq10, (List.forall_mem_append.mpr ⟨iq11, (List.forall_mem_append.mpr ⟨iq12, (List.forall_mem_append.mpr ⟨iq13, (List.forall_mem_append.mpr ⟨iq14, (List.forall_mem_append.mpr ⟨iq15, (List.forall_mem_append.mpr ⟨iq16, (List.forall_mem_append.mpr ⟨iq17, (List.forall_mem_append.mpr ⟨iq18, (List.forall_mem_append.mpr ⟨iq19, (List.forall_mem_append.mpr ⟨iq20, (List.forall_mem_append.mpr ⟨iq21, (List.forall_mem_append.mpr ⟨iq22, (List.forall_mem_append.mpr ⟨iq23, (List.forall_mem_append.mpr ⟨iq24, (List.forall_mem_append.mpr ⟨iq25, (List.forall_mem_append.mpr ⟨iq26, (List.forall_mem_append.mpr ⟨iq27, (List.forall_mem_append.mpr ⟨iq28, (List.forall_mem_append.mpr ⟨iq29, (List.forall_mem_append.mpr ⟨iq30, (List.forall_mem_append.mpr ⟨iq31, (List.forall_mem_append.mpr ⟨iq32, (List.forall_mem_append.mpr ⟨iq33, (List.forall_mem_append.mpr ⟨iq34, (List.forall_mem_append.mpr ⟨iq35, (List.forall_mem_append.mpr ⟨iq36, (List.forall_mem_append.mpr ⟨iq37, (List.forall_mem_append.mpr ⟨iq38, (List.forall_mem_append.mpr ⟨iq39, (List.forall_mem_append.mpr ⟨iq40, (List.forall_mem_append.mpr ⟨iq41, (List.forall_mem_append.mpr ⟨iq42, (List.forall_mem_append.mpr ⟨iq43, (List.forall_mem_append.mpr ⟨iq44, (List.forall_mem_append.mpr ⟨iq45, (List.forall_mem_append.mpr ⟨iq46, (List.forall_mem_append.mpr ⟨iq47, (List.forall_mem_append.mpr ⟨iq48, (List.forall_mem_append.mpr ⟨iq49, (List.forall_mem_append.mpr ⟨iq50, (List.forall_mem_append.mpr ⟨iq51, (List.forall_mem_append.mpr ⟨iq52, (List.forall_mem_append.mpr ⟨iq53, (List.forall_mem_append.mpr ⟨iq54, (List.forall_mem_append.mpr ⟨iq55, (List.forall_mem_append.mpr ⟨iq56, (List.forall_mem_append.mpr ⟨iq57, (List.forall_mem_append.mpr ⟨iq58, (List.forall_mem_append.mpr ⟨iq59, (List.forall_mem_append.mpr ⟨iq60, (List.forall_mem_append.mpr ⟨iq61, (List.forall_mem_append.mpr ⟨iq62, (List.forall_mem_append.mpr ⟨iq63, (List.forall_mem_append.mpr ⟨iq64, (List.forall_mem_append.mpr ⟨iq65, (List.forall_mem_append.mpr ⟨iq66, (List.forall_mem_append.mpr ⟨iq67, (List.forall_mem_append.mpr ⟨iq68, (List.forall_mem_append.mpr ⟨iq69, iq70⟩)⟩)⟩)⟩)⟩)⟩)⟩)⟩)⟩)⟩)⟩)⟩)⟩)⟩)⟩)⟩)⟩)⟩)⟩)⟩)⟩)⟩)⟩)⟩)⟩)⟩)⟩)⟩)⟩)⟩)⟩)⟩)⟩)⟩)⟩)⟩)⟩)⟩)⟩)⟩)⟩)⟩)⟩)⟩)⟩)⟩)⟩)⟩)⟩)⟩)⟩)⟩)⟩)⟩)⟩)⟩)⟩)⟩)⟩)⟩)⟩)⟩)⟩)⟩)⟩)⟩)⟩)⟩)⟩), iu11⟩), iu12⟩), iu3⟩), iu5⟩), iu4⟩), iu7⟩), iu6⟩), iu9⟩), iu0⟩), iu2⟩), iu10⟩), iu1⟩), iu8⟩), fun _ h => absurd h List.not_mem_nil⟩)
