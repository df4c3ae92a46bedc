def zT3 (ci : Nat) : vw_C := vwCl.getD ci (RX0, TX0, 2)
def zFw (e : Nat × Nat × Nat × Nat) : Cond := .fieldLink (zOwnL.getD e.1 "") e.2.1 (zT3 e.2.2.1).1 ((zT3 e.2.2.1).2.1 e.2.2.2).2.1 ((zT3 e.2.2.1).2.1 e.2.2.2).2.2.1
def zFsI : List Nat := [422, 423, 320, 176, 177, 178, 179, 180, 181, 182, 184, 186, 188, 190, 192, 398, 391, 394, 283, 285, 368, 369, 370, 371, 318, 387, 388, 389, 390, 393, 396, 399, 270, 271, 330, 328, 308, 309, 310, 311, 312, 314, 316, 319, 321, 323, 325, 327, 329, 228, 229, 230, 231, 232, 233, 234, 235, 236, 237, 239, 145, 146, 147, 148, 149, 150, 152, 431, 432, 433, 434, 435, 436, 437, 438, 439, 440, 441, 442, 443, 444, 445, 446, 447, 448, 151, 397, 424, 153, 322, 324, 317, 313, 315, 392, 395, 183, 185, 191, 189, 187, 238, 240, 284, 286, 326, 193, 400, 1513, 1514, 1521, 1522, 1523, 1524, 1525, 1526, 1527, 1528, 1529, 1530, 1531, 1532, 1533, 1534, 1535, 1536, 1537, 1538, 1550, 1551, 1552, 1553, 1554, 1557, 1558, 1559, 1560, 1561, 1564, 1565, 1566, 1567, 1568, 1569, 1570, 1572, 1573, 1574, 1575, 1580, 1582, 1584, 1515, 1518, 1519, 1517, 1516, 1520, 1539, 1540, 1541, 1542, 1543, 1544, 1545, 1546, 1547, 1548, 1549, 1556, 1562, 1563, 1583, 1585, 1555, 1571, 1576, 1577, 1578, 1579, 1581]
set_option maxRecDepth 100000 in
theorem zFs_chk : (zFs.zip zFsI).all (fun e => decide (lw_tbl[e.2]? = some (zFw e.1) ∧ e.1.2.2.1 < 11 ∧ e.1.2.2.2 < (zT3 e.1.2.2.1).2.2)) = true := by decide +kernel
theorem zFs_len : zFsI.length = zFs.length := by decide +kernel
theorem zFs_in {e : Nat × Nat × Nat × Nat} (h : e ∈ zFs) : zFw e ∈ lw_tbl ∧ e.2.2.1 < 11 ∧ e.2.2.2 < (zT3 e.2.2.1).2.2 := by
  obtain ⟨j, hj⟩ := List.getElem?_of_mem h
  have hl := (List.getElem?_eq_some_iff.mp hj).1
  have hi : zFsI[j]? = some zFsI[j]! := by
    rw [List.getElem?_eq_getElem (by rw [zFs_len]; exact hl)]
    simp [List.getElem!_eq_getElem?_getD, List.getElem?_eq_getElem (show j < zFsI.length by rw [zFs_len]; exact hl)]
  have hz : (e, zFsI[j]!) ∈ zFs.zip zFsI := by
    refine List.mem_of_getElem? (i := j) ?_
    rw [List.getElem?_zip_eq_some]
    exact ⟨hj, hi⟩
  have hc := of_decide_eq_true (List.all_eq_true.mp zFs_chk _ hz)
  exact ⟨List.mem_of_getElem? hc.1, hc.2⟩
def zMsI : List Nat := [931, 1042, 1043, 1044, 1048, 1049, 624, 1050, 1051, 628, 640, 641, 518, 519, 544, 583, 584, 548, 577, 1357, 1361, 1362, 364, 947, 1002, 973, 951, 991, 977, 964, 955, 959, 963, 968, 969, 979, 978, 983, 985, 986, 993, 990, 568, 552, 563, 564, 572, 1014, 1015, 1016, 1020, 1021, 1022, 1023, 1024, 1025, 1029, 1030, 1028, 1465, 651, 655, 1398, 1402, 1404, 1410, 301, 305, 778, 786, 909, 913, 790, 794, 861, 869, 901, 798, 873, 880, 889, 893, 897, 884, 885, 556, 537, 527, 533, 523, 1270, 1200, 1201, 1202, 1206, 1215, 1219, 1210, 1211, 1223, 1227, 1231, 1235, 1239, 1240, 1242, 1243, 1244, 782, 877, 865, 905, 294, 360, 490, 494, 690, 774, 917, 918, 922, 923, 927, 932, 596, 943, 1010, 1038, 695, 1059, 1060, 1064, 616, 1076, 1117, 1125, 506, 510, 514, 600, 604, 608, 1176, 1196, 1255, 1266, 1278, 1297, 1300, 1304, 1332, 1352, 1375, 699, 1394, 1420, 620, 635, 636, 1438, 1442, 1461, 1476, 1487, 647, 663, 770, 1307, 1501, 1505, 1762, 1770, 1754, 1816, 1796, 1509, 1777, 1812, 1746, 1750, 1758, 1766, 1773, 1786, 1800, 1804, 1808, 1819, 1823, 1827, 1839, 1851, 1843, 1847, 1835, 1866, 1856, 1861, 1929, 1925, 1878, 1890, 1897, 1905, 1921, 1948, 1952, 1964, 1944, 1956, 1960, 1968, 1973, 1936, 1940, 1997, 2022, 2017, 2044, 2034, 2037, 2040, 2072, 2065, 2060, 2068, 2076, 2092, 2108, 2104, 2125, 2129, 2142, 2150, 2162, 2178, 2174, 2194, 686, 939, 1006, 1034, 1055, 1072, 1099, 1106, 1113, 1121, 1129, 1136, 1143, 1150, 1157, 1164, 1172, 1251, 1262, 1274, 1282, 1293, 1313, 1321, 1328, 1340, 1348, 1371, 1383, 1390, 1416, 1427, 1434, 1449, 1457, 1472, 1483, 133, 1497, 486, 1734, 682, 1742, 1491, 936, 1831, 1003, 1874, 1031, 1882, 498, 1738, 1052, 1886, 1068, 1893, 1096, 1901, 1103, 1909, 1110, 1913, 1118, 1917, 1126, 1932, 502, 1977, 1133, 1981, 1140, 1985, 588, 1989, 1147, 1993, 592, 2001, 1154, 2005, 1161, 2009, 1168, 2013, 1248, 2026, 1259, 2030, 1271, 2048, 1279, 2052, 1290, 2056, 1310, 2079, 1318, 2084, 1325, 2088, 1337, 2096, 1345, 2100, 1368, 2112, 1380, 2117, 1387, 2121, 1413, 2134, 1424, 2138, 612, 2146, 631, 2154, 1431, 2158, 1446, 2166, 1454, 2170, 1469, 2182, 1480, 2186, 643, 2190, 659, 2198, 670, 2202, 674, 2206, 678, 2210]
def zMsNI : List Nat := [141, 172, 222, 266, 279, 383, 418]
set_option maxRecDepth 100000 in
theorem zMs_chk : (zMs.zip zMsI).all (fun e => decide (lw_tbl[e.2]? = some (.methodLink (zOwnL.getD e.1.1 "") e.1.2.1 (zY e.1.2.2)) ∧ 0 < e.1.2.2 ∧ e.1.2.2 < 335)) = true := by decide +kernel
theorem zMsN_chk : (zMsN.zip zMsNI).all (fun e => decide (lw_tbl[e.2]? = some (.methodLinkNest (zOwnL.getD e.1.1 "") e.1.2.1 (zY e.1.2.2) "RainWheel") ∧ 0 < e.1.2.2 ∧ e.1.2.2 < 335)) = true := by decide +kernel
theorem zMs_len : zMsI.length = zMs.length := by decide +kernel
theorem zMsN_len : zMsNI.length = zMsN.length := by decide +kernel
theorem z_zip {α : Type} {l : List α} {p : List Nat} (hl : p.length = l.length) {f : α × Nat → Bool} (h : (l.zip p).all f = true) {e : α} (he : e ∈ l) : ∃ i, f (e, i) = true := by
  obtain ⟨j, hj⟩ := List.getElem?_of_mem he
  have hb := (List.getElem?_eq_some_iff.mp hj).1
  have hp : j < p.length := by rw [hl]; exact hb
  refine ⟨p[j], List.all_eq_true.mp h _ (List.mem_of_getElem? (i := j) ?_)⟩
  rw [List.getElem?_zip_eq_some]
  exact ⟨hj, List.getElem?_eq_getElem hp⟩
theorem zMs_in {e : Nat × Nat × Nat} (h : e ∈ zMs) : Cond.methodLink (zOwnL.getD e.1 "") e.2.1 (zY e.2.2) ∈ lw_tbl ∧ 0 < e.2.2 ∧ e.2.2 < 335 := by
  obtain ⟨i, hi⟩ := z_zip zMs_len zMs_chk h
  have hc := of_decide_eq_true hi
  exact ⟨List.mem_of_getElem? hc.1, hc.2⟩
theorem zMsN_in {e : Nat × Nat × Nat} (h : e ∈ zMsN) : Cond.methodLinkNest (zOwnL.getD e.1 "") e.2.1 (zY e.2.2) "RainWheel" ∈ lw_tbl ∧ 0 < e.2.2 ∧ e.2.2 < 335 := by
  obtain ⟨i, hi⟩ := z_zip zMsN_len zMsN_chk h
  have hc := of_decide_eq_true hi
  exact ⟨List.mem_of_getElem? hc.1, hc.2⟩
def zTabL : List (Nat × List (Nat × Nat × Nat × Nat)) := [(58, [(0, 9, 12, 13)]), (89, [(0, 9, 12, 13)]), (102, [(0, 9, 12, 13)]), (107, [(0, 9, 12, 13)]), (111, [(0, 9, 12, 13)]), (115, [(0, 10, 13, 31), (0, 10, 17, 13)]), (118, [(0, 9, 12, 31)]), (120, [(0, 9, 12, 13)]), (122, [(0, 16, 19, 13)]), (124, [(0, 18, 21, 13)]), (126, [(0, 10, 13, 31), (0, 10, 17, 13)]), (128, [(0, 9, 12, 31)]), (130, [(0, 9, 12, 31)]), (132, [(0, 9, 12, 31)]), (134, [(0, 9, 12, 31)]), (136, [(0, 9, 12, 31)]), (138, [(0, 9, 12, 13), (0, 9, 15, 68)]), (152, [(0, 9, 12, 13), (0, 9, 15, 68)]), (155, [(0, 12, 15, 13)]), (158, [(0, 12, 15, 13)]), (160, [(0, 14, 17, 13)]), (162, [(0, 13, 16, 31), (0, 13, 20, 13)]), (168, [(0, 10, 13, 31), (0, 10, 17, 13)]), (170, [(0, 9, 12, 13)]), (172, [(0, 13, 16, 13)]), (175, [(0, 10, 13, 13)]), (177, [(0, 10, 13, 13)]), (182, [(0, 9, 12, 13)]), (185, [(0, 9, 12, 13)]), (187, [(0, 9, 12, 13)]), (193, [(0, 9, 12, 13)]), (196, [(0, 9, 12, 31), (0, 9, 16, 13)]), (198, [(0, 10, 13, 13)]), (202, [(0, 12, 15, 13)]), (204, [(0, 10, 13, 31)]), (208, [(0, 10, 13, 31), (0, 10, 17, 13)]), (211, [(0, 9, 12, 31)])]
def zTab (μ : Nat) : List (Nat × Nat × Nat × Nat) := (zTabL.lookup μ).getD []
def zCw (ν : Nat) : Cond := if (zMof ν).2.2.2.2.2 = true then .codeWith (zY ν) (zB ν) (zMof ν).2.2.1 (zRt ν) (zTab ν) else .code (zY ν) (zB ν) (zMof ν).2.2.1 (zRt ν)
/-- places of a method's words: its code, instance or static, selects, initialized -/
def zPlL : List (Nat × Nat × Nat × Nat) := [(0, 0, 0, 105), (135, 134, 0, 106), (143, 142, 0, 107), (174, 173, 0, 108), (224, 223, 0, 109), (268, 267, 0, 110), (281, 280, 0, 111), (296, 295, 0, 112), (304, 303, 0, 112), (307, 306, 0, 113), (362, 361, 0, 114), (367, 365, 366, 114), (385, 384, 0, 115), (420, 419, 0, 116), (489, 487, 488, 106), (493, 491, 492, 107), (497, 495, 496, 107), (501, 499, 500, 106), (505, 503, 504, 106), (509, 508, 1, 106), (513, 511, 512, 108), (517, 515, 516, 108), (522, 520, 521, 112), (526, 525, 2, 112), (529, 528, 0, 128), (536, 534, 535, 112), (540, 538, 539, 112), (547, 546, 3, 108), (551, 549, 550, 114), (555, 553, 554, 112), (559, 557, 558, 112), (567, 565, 566, 114), (571, 570, 4, 114), (574, 573, 0, 114), (580, 579, 5, 108), (587, 586, 6, 108), (591, 589, 590, 106), (595, 593, 594, 106), (599, 597, 598, 112), (603, 602, 7, 106), (607, 605, 606, 115), (611, 609, 610, 108), (615, 613, 614, 106), (619, 617, 618, 112), (623, 621, 622, 116), (627, 625, 626, 116), (630, 629, 0, 116), (634, 632, 633, 106), (639, 637, 638, 116), (646, 644, 645, 106), (650, 648, 649, 115), (654, 653, 8, 115), (658, 657, 9, 115), (662, 660, 661, 106), (666, 664, 665, 115), (673, 671, 672, 106), (677, 675, 676, 106), (681, 679, 680, 106), (684, 683, 0, 105), (689, 687, 688, 106), (693, 692, 10, 106), (698, 697, 11, 106), (702, 701, 12, 106), (773, 771, 772, 107), (777, 775, 776, 112), (781, 779, 780, 107), (785, 783, 784, 107), (789, 788, 14, 112), (793, 791, 792, 107), (796, 795, 0, 112), (801, 799, 800, 107), (864, 862, 863, 107), (868, 867, 15, 107), (872, 871, 16, 112), (876, 874, 875, 107), (879, 878, 0, 107), (883, 882, 17, 112), (888, 886, 887, 107), (892, 891, 18, 112), (896, 895, 19, 112), (900, 899, 20, 112), (904, 902, 903, 107), (908, 906, 907, 107), (912, 911, 21, 112), (916, 915, 22, 112), (921, 919, 920, 107), (926, 924, 925, 115), (930, 928, 929, 116), (935, 933, 934, 109), (938, 937, 0, 105), (942, 940, 941, 106), (946, 944, 945, 114), (950, 949, 23, 114), (954, 953, 24, 114), (958, 957, 25, 114), (962, 960, 961, 107), (967, 966, 26, 114), (972, 971, 27, 114), (976, 974, 975, 107), (982, 981, 28, 114), (989, 988, 29, 114), (995, 994, 0, 114), (1005, 1004, 0, 105), (1009, 1007, 1008, 106), (1013, 1011, 1012, 115), (1019, 1018, 30, 115), (1027, 1026, 0, 115), (1033, 1032, 0, 105), (1037, 1035, 1036, 106), (1041, 1039, 1040, 116), (1047, 1046, 31, 116), (1054, 1053, 0, 105), (1058, 1056, 1057, 106), (1063, 1061, 1062, 112), (1067, 1065, 1066, 112), (1070, 1069, 0, 105), (1075, 1073, 1074, 106), (1079, 1078, 32, 106), (1098, 1097, 0, 105), (1102, 1100, 1101, 106), (1105, 1104, 0, 105), (1109, 1107, 1108, 106), (1112, 1111, 0, 105), (1116, 1114, 1115, 106), (1120, 1119, 0, 105), (1124, 1122, 1123, 106), (1128, 1127, 0, 105), (1132, 1130, 1131, 106), (1135, 1134, 0, 105), (1139, 1137, 1138, 106), (1142, 1141, 0, 105), (1146, 1144, 1145, 106), (1149, 1148, 0, 105), (1153, 1151, 1152, 106), (1156, 1155, 0, 105), (1160, 1158, 1159, 106), (1163, 1162, 0, 105), (1167, 1165, 1166, 106), (1170, 1169, 0, 105), (1175, 1173, 1174, 106), (1179, 1178, 33, 106), (1199, 1197, 1198, 109), (1205, 1203, 1204, 114), (1209, 1208, 34, 109), (1214, 1212, 1213, 112), (1218, 1216, 1217, 112), (1222, 1221, 35, 109), (1226, 1225, 36, 109), (1230, 1229, 37, 109), (1234, 1233, 38, 109), (1238, 1237, 39, 109), (1247, 1246, 40, 109), (1250, 1249, 0, 105), (1254, 1252, 1253, 106), (1258, 1256, 1257, 109), (1261, 1260, 0, 105), (1265, 1263, 1264, 106), (1269, 1267, 1268, 112), (1273, 1272, 0, 105), (1277, 1275, 1276, 106), (1281, 1280, 0, 105), (1285, 1283, 1284, 106), (1292, 1291, 0, 105), (1296, 1294, 1295, 106), (1299, 1298, 0, 106), (1303, 1301, 1302, 112), (1306, 1305, 0, 106), (1309, 1308, 0, 106), (1312, 1311, 0, 105), (1316, 1314, 1315, 106), (1320, 1319, 0, 105), (1324, 1322, 1323, 106), (1327, 1326, 0, 105), (1331, 1329, 1330, 106), (1335, 1334, 41, 106), (1339, 1338, 0, 105), (1343, 1341, 1342, 106), (1347, 1346, 0, 105), (1351, 1349, 1350, 106), (1355, 1353, 1354, 111), (1360, 1359, 42, 111), (1364, 1363, 0, 111), (1370, 1369, 0, 105), (1374, 1372, 1373, 106), (1377, 1376, 0, 111), (1382, 1381, 0, 105), (1386, 1384, 1385, 106), (1389, 1388, 0, 105), (1393, 1391, 1392, 106), (1397, 1395, 1396, 110), (1401, 1400, 43, 110), (1407, 1406, 44, 110), (1412, 1411, 0, 110), (1415, 1414, 0, 105), (1419, 1417, 1418, 106), (1423, 1421, 1422, 110), (1426, 1425, 0, 105), (1430, 1428, 1429, 106), (1433, 1432, 0, 105), (1437, 1435, 1436, 106), (1441, 1439, 1440, 108), (1445, 1443, 1444, 108), (1448, 1447, 0, 105), (1452, 1450, 1451, 106), (1456, 1455, 0, 105), (1460, 1458, 1459, 106), (1464, 1462, 1463, 115), (1468, 1467, 45, 115), (1471, 1470, 0, 105), (1475, 1473, 1474, 106), (1479, 1477, 1478, 115), (1482, 1481, 0, 105), (1486, 1484, 1485, 106), (1490, 1488, 1489, 115), (1494, 1492, 1493, 117), (1499, 1498, 0, 117), (1504, 1503, 46, 117), (1508, 1507, 47, 117), (1512, 1511, 48, 117), (1737, 1735, 1736, 117), (1741, 1739, 1740, 117), (1745, 1743, 1744, 117), (1749, 1748, 49, 117), (1753, 1752, 50, 117), (1757, 1756, 51, 117), (1761, 1760, 52, 117), (1765, 1764, 53, 117), (1769, 1768, 54, 117), (1772, 1771, 0, 117), (1775, 1774, 0, 117), (1779, 1778, 0, 117), (1788, 1787, 0, 117), (1799, 1798, 55, 117), (1803, 1802, 56, 117), (1807, 1806, 57, 117), (1811, 1810, 58, 117), (1815, 1814, 59, 117), (1818, 1817, 0, 117), (1822, 1821, 60, 117), (1826, 1825, 61, 117), (1830, 1829, 62, 117), (1834, 1832, 1833, 117), (1838, 1837, 63, 117), (1842, 1841, 64, 117), (1846, 1845, 65, 117), (1850, 1849, 66, 117), (1854, 1853, 67, 117), (1859, 1858, 68, 117), (1864, 1863, 69, 117), (1869, 1868, 70, 117), (1877, 1875, 1876, 117), (1881, 1880, 71, 117), (1885, 1883, 1884, 117), (1889, 1887, 1888, 117), (1892, 1891, 0, 117), (1896, 1894, 1895, 117), (1900, 1899, 72, 117), (1904, 1902, 1903, 117), (1908, 1907, 73, 117), (1912, 1910, 1911, 117), (1916, 1914, 1915, 117), (1920, 1918, 1919, 117), (1924, 1923, 74, 117), (1928, 1927, 75, 117), (1931, 1930, 0, 117), (1935, 1933, 1934, 117), (1939, 1938, 76, 117), (1943, 1942, 77, 117), (1947, 1946, 78, 117), (1951, 1950, 79, 117), (1955, 1954, 80, 117), (1959, 1958, 81, 117), (1963, 1962, 82, 117), (1967, 1966, 83, 117), (1971, 1970, 84, 117), (1976, 1975, 85, 117), (1980, 1978, 1979, 117), (1984, 1982, 1983, 117), (1988, 1986, 1987, 117), (1992, 1990, 1991, 117), (1996, 1994, 1995, 117), (2000, 1999, 86, 117), (2004, 2002, 2003, 117), (2008, 2006, 2007, 117), (2012, 2010, 2011, 117), (2016, 2014, 2015, 117), (2020, 2019, 87, 117), (2025, 2024, 88, 117), (2029, 2027, 2028, 117), (2033, 2031, 2032, 117), (2036, 2035, 0, 117), (2039, 2038, 0, 117), (2043, 2042, 89, 117), (2047, 2046, 90, 117), (2051, 2049, 2050, 117), (2055, 2053, 2054, 117), (2059, 2057, 2058, 117), (2063, 2062, 91, 117), (2067, 2066, 0, 117), (2071, 2070, 92, 117), (2075, 2074, 93, 117), (2078, 2077, 0, 117), (2082, 2080, 2081, 117), (2087, 2085, 2086, 117), (2091, 2089, 2090, 117), (2095, 2094, 94, 117), (2099, 2097, 2098, 117), (2103, 2101, 2102, 117), (2107, 2106, 95, 117), (2111, 2110, 96, 117), (2115, 2113, 2114, 117), (2120, 2118, 2119, 117), (2124, 2122, 2123, 117), (2128, 2127, 97, 117), (2132, 2131, 98, 117), (2137, 2135, 2136, 117), (2141, 2139, 2140, 117), (2145, 2144, 99, 117), (2149, 2147, 2148, 117), (2153, 2152, 100, 117), (2157, 2155, 2156, 117), (2161, 2159, 2160, 117), (2165, 2164, 101, 117), (2169, 2167, 2168, 117), (2173, 2171, 2172, 117), (2177, 2176, 102, 117), (2181, 2180, 103, 117), (2185, 2183, 2184, 117), (2189, 2187, 2188, 117), (2193, 2191, 2192, 117), (2197, 2196, 104, 117), (2201, 2199, 2200, 117), (2205, 2203, 2204, 117), (2209, 2207, 2208, 117), (2213, 2211, 2212, 117)]
def zPl (ν : Nat) : Nat × Nat × Nat × Nat := zPlL.getD ν (0, 0, 0, 0)
def zMchk (ν : Nat) : Bool := decide (lw_tbl[(zPl ν).1]? = some (zCw ν)) && decide (lw_tbl[(zPl ν).2.1]? = some (if (zMof ν).2.2.2.1 = true then .static (zY ν) else .instanceMethod (zY ν))) && ((zMof ν).2.2.2.1 || (zY ν).name == "<init>" || decide (lw_tbl[(zPl ν).2.2.1]? = some (.selects (zOwn ν) (zY ν) (zY ν)))) && decide (lw_tbl[(zPl ν).2.2.2]? = some (.initialized (zOwn ν))) && decide ((zMof ν).2.2.1 ≤ 40) && decide (((parseMethodDescriptor (zY ν).desc).map (fun d => d.parameters.length + (if (zMof ν).2.2.2.1 = true then 0 else 1))) = some (zMof ν).2.1) && decide (plainName (zY ν).cls = true) && decide ((zMof ν).1 < 14)
set_option maxRecDepth 100000 in
theorem zM_chk_0 : (List.range' 1 19).all zMchk = true := by decide +kernel
set_option maxRecDepth 100000 in
theorem zM_chk_20 : (List.range' 20 20).all zMchk = true := by decide +kernel
set_option maxRecDepth 100000 in
theorem zM_chk_40 : (List.range' 40 20).all zMchk = true := by decide +kernel
set_option maxRecDepth 100000 in
theorem zM_chk_60 : (List.range' 60 20).all zMchk = true := by decide +kernel
set_option maxRecDepth 100000 in
theorem zM_chk_80 : (List.range' 80 20).all zMchk = true := by decide +kernel
set_option maxRecDepth 100000 in
theorem zM_chk_100 : (List.range' 100 20).all zMchk = true := by decide +kernel
set_option maxRecDepth 100000 in
theorem zM_chk_120 : (List.range' 120 20).all zMchk = true := by decide +kernel
set_option maxRecDepth 100000 in
theorem zM_chk_140 : (List.range' 140 20).all zMchk = true := by decide +kernel
set_option maxRecDepth 100000 in
theorem zM_chk_160 : (List.range' 160 20).all zMchk = true := by decide +kernel
set_option maxRecDepth 100000 in
theorem zM_chk_180 : (List.range' 180 20).all zMchk = true := by decide +kernel
set_option maxRecDepth 100000 in
theorem zM_chk_200 : (List.range' 200 20).all zMchk = true := by decide +kernel
set_option maxRecDepth 100000 in
theorem zM_chk_220 : (List.range' 220 20).all zMchk = true := by decide +kernel
set_option maxRecDepth 100000 in
theorem zM_chk_240 : (List.range' 240 20).all zMchk = true := by decide +kernel
set_option maxRecDepth 100000 in
theorem zM_chk_260 : (List.range' 260 20).all zMchk = true := by decide +kernel
set_option maxRecDepth 100000 in
theorem zM_chk_280 : (List.range' 280 20).all zMchk = true := by decide +kernel
set_option maxRecDepth 100000 in
theorem zM_chk_300 : (List.range' 300 20).all zMchk = true := by decide +kernel
set_option maxRecDepth 100000 in
theorem zM_chk_320 : (List.range' 320 15).all zMchk = true := by decide +kernel
theorem zM_ok {ν : Nat} (h0 : 0 < ν) (h1 : ν < 335) : zMchk ν = true := by
  rcases Nat.lt_or_ge ν 20 with h | h
  · exact List.all_eq_true.mp zM_chk_0 ν (List.mem_range'_1.mpr ⟨by omega, by omega⟩)
  rcases Nat.lt_or_ge ν 40 with h | h
  · exact List.all_eq_true.mp zM_chk_20 ν (List.mem_range'_1.mpr ⟨by omega, by omega⟩)
  rcases Nat.lt_or_ge ν 60 with h | h
  · exact List.all_eq_true.mp zM_chk_40 ν (List.mem_range'_1.mpr ⟨by omega, by omega⟩)
  rcases Nat.lt_or_ge ν 80 with h | h
  · exact List.all_eq_true.mp zM_chk_60 ν (List.mem_range'_1.mpr ⟨by omega, by omega⟩)
  rcases Nat.lt_or_ge ν 100 with h | h
  · exact List.all_eq_true.mp zM_chk_80 ν (List.mem_range'_1.mpr ⟨by omega, by omega⟩)
  rcases Nat.lt_or_ge ν 120 with h | h
  · exact List.all_eq_true.mp zM_chk_100 ν (List.mem_range'_1.mpr ⟨by omega, by omega⟩)
  rcases Nat.lt_or_ge ν 140 with h | h
  · exact List.all_eq_true.mp zM_chk_120 ν (List.mem_range'_1.mpr ⟨by omega, by omega⟩)
  rcases Nat.lt_or_ge ν 160 with h | h
  · exact List.all_eq_true.mp zM_chk_140 ν (List.mem_range'_1.mpr ⟨by omega, by omega⟩)
  rcases Nat.lt_or_ge ν 180 with h | h
  · exact List.all_eq_true.mp zM_chk_160 ν (List.mem_range'_1.mpr ⟨by omega, by omega⟩)
  rcases Nat.lt_or_ge ν 200 with h | h
  · exact List.all_eq_true.mp zM_chk_180 ν (List.mem_range'_1.mpr ⟨by omega, by omega⟩)
  rcases Nat.lt_or_ge ν 220 with h | h
  · exact List.all_eq_true.mp zM_chk_200 ν (List.mem_range'_1.mpr ⟨by omega, by omega⟩)
  rcases Nat.lt_or_ge ν 240 with h | h
  · exact List.all_eq_true.mp zM_chk_220 ν (List.mem_range'_1.mpr ⟨by omega, by omega⟩)
  rcases Nat.lt_or_ge ν 260 with h | h
  · exact List.all_eq_true.mp zM_chk_240 ν (List.mem_range'_1.mpr ⟨by omega, by omega⟩)
  rcases Nat.lt_or_ge ν 280 with h | h
  · exact List.all_eq_true.mp zM_chk_260 ν (List.mem_range'_1.mpr ⟨by omega, by omega⟩)
  rcases Nat.lt_or_ge ν 300 with h | h
  · exact List.all_eq_true.mp zM_chk_280 ν (List.mem_range'_1.mpr ⟨by omega, by omega⟩)
  rcases Nat.lt_or_ge ν 320 with h | h
  · exact List.all_eq_true.mp zM_chk_300 ν (List.mem_range'_1.mpr ⟨by omega, by omega⟩)
  rcases Nat.lt_or_ge ν 335 with h | h
  · exact List.all_eq_true.mp zM_chk_320 ν (List.mem_range'_1.mpr ⟨by omega, by omega⟩)
  omega
def zKsI : List Nat := [581, 1356, 1378, 1379, 1408, 1286, 2021, 2116, 2133, 1972, 530, 531, 532]
def zJsI : List Nat := [1317, 1344, 1336, 2064, 2083]
theorem zKs_chk : (zKs.zip zKsI).all (fun e => decide (lw_tbl[e.2]? = some (.constant (zOwnL.getD e.1.1 "") e.1.2.1 (Int32.ofInt e.1.2.2)))) = true := by decide +kernel
theorem zJs_chk : (zJs.zip zJsI).all (fun e => decide (lw_tbl[e.2]? = some (.constantLong (zOwnL.getD e.1.1 "") e.1.2.1 (Int64.ofInt e.1.2.2)))) = true := by decide +kernel
theorem zKs_len : zKsI.length = zKs.length := by decide +kernel
theorem zJs_len : zJsI.length = zJs.length := by decide +kernel
theorem zKs_in {e : Nat × Nat × Int} (h : e ∈ zKs) : Cond.constant (zOwnL.getD e.1 "") e.2.1 (Int32.ofInt e.2.2) ∈ lw_tbl := by
  obtain ⟨i, hi⟩ := z_zip zKs_len zKs_chk h
  exact List.mem_of_getElem? (of_decide_eq_true hi)
theorem zJs_in {e : Nat × Nat × Int} (h : e ∈ zJs) : Cond.constantLong (zOwnL.getD e.1 "") e.2.1 (Int64.ofInt e.2.2) ∈ lw_tbl := by
  obtain ⟨i, hi⟩ := z_zip zJs_len zJs_chk h
  exact List.mem_of_getElem? (of_decide_eq_true hi)
def zExc (k : Nat) : String := match k with
  | 0 => "java/util/NoSuchElementException"
  | 1 => "java/lang/IllegalArgumentException"
  | _ => "java/lang/IllegalStateException"
def zEw (e : Nat × Nat × Nat × Nat) : Cond := match e.1 with
  | 25 => .classLink (zOwnL.getD e.2.1 "") e.2.2.1 (zT3 e.2.2.2).1
  | 27 => .classLink (zOwnL.getD e.2.1 "") e.2.2.1 "RainWheel$Plan"
  | 28 => .classLink (zOwnL.getD e.2.1 "") e.2.2.1 "[[I"
  | 30 => .methodLink (zOwnL.getD e.2.1 "") e.2.2.1 Lib.objectInit
  | 31 => .fieldLinkNest (zOwnL.getD e.2.1 "") e.2.2.1 "RainWheel" "MOST_OF_KIND" "[I" "RainWheel"
  | 34 => .classLink (zOwnL.getD e.2.1 "") e.2.2.1 (zExc e.2.2.2)
  | 35 => .methodLink (zOwnL.getD e.2.1 "") e.2.2.1 ⟨"java/lang/Math", (match e.2.2.2 with | 0 => "max" | 1 => "min" | _ => "abs"), (match e.2.2.2 with | 2 => "(I)I" | _ => "(II)I")⟩
  | 36 => .methodLink (zOwnL.getD e.2.1 "") e.2.2.1 ⟨"java/lang/System", "arraycopy", "(Ljava/lang/Object;ILjava/lang/Object;II)V"⟩
  | 37 => .methodLink (zOwnL.getD e.2.1 "") e.2.2.1 ⟨"java/lang/String", "length", "()I"⟩
  | 38 => .methodLink (zOwnL.getD e.2.1 "") e.2.2.1 ⟨"java/lang/String", "charAt", "(I)C"⟩
  | _ => .initialized "RainWheel"
def zEsI : List Nat := [139, 170, 220, 264, 277, 292, 358, 381, 416, 131, 1495, 381, 300, 226, 421, 175, 282, 363, 386, 269, 297, 225, 144, 136, 1500, 298, 1080, 703, 1180, 642, 582, 1365, 1366, 1367, 575, 576, 1409, 541, 560, 1241, 1287, 694, 1453, 667, 1403, 802, 1780, 812, 1781, 106, 106, 106]
theorem zEs_chk : (zEs.zip zEsI).all (fun e => decide (lw_tbl[e.2]? = some (zEw e.1) ∧ (e.1.1 = 25 → e.1.2.2.2 < 11))) = true := by decide +kernel
theorem zEs_len : zEsI.length = zEs.length := by decide +kernel
theorem zEs_in {e : Nat × Nat × Nat × Nat} (h : e ∈ zEs) : zEw e ∈ lw_tbl ∧ (e.1 = 25 → e.2.2.2 < 11) := by
  obtain ⟨i, hi⟩ := z_zip zEs_len zEs_chk h
  have hc := of_decide_eq_true hi
  exact ⟨List.mem_of_getElem? hc.1, hc.2⟩
