theorem q_inp {big ws : List Cond} (ps : List Nat) (hp : ws = ps.filterMap (fun i => big[i]?)) : ∀ w ∈ ws, w ∈ big := by
  intro w hw
  rw [hp] at hw
  obtain ⟨i, -, hi⟩ := List.mem_filterMap.mp hw
  exact List.mem_of_getElem? hi
set_option maxRecDepth 20000 in
theorem in_wsL_law0_r1 : ∀ w ∈ wsL_law0_r1, w ∈ lw_tbl := q_inp [191, 192, 163, 1862, 1863, 174, 689, 193, 194, 195, 196, 197, 198, 199, 499, 201, 500, 203, 204, 166, 501, 502, 503, 504] (by decide +kernel)
set_option maxRecDepth 20000 in
theorem in_wsL_law0_r2 : ∀ w ∈ wsL_law0_r2, w ∈ lw_tbl := q_inp [252, 505, 506, 507, 229, 230, 167, 508, 253, 254, 168, 509, 510, 511, 512, 513, 514, 515, 516, 451, 172, 473, 173, 205] (by decide +kernel)
set_option maxRecDepth 20000 in
theorem in_wsL_law0_r3 : ∀ w ∈ wsL_law0_r3, w ∈ lw_tbl := q_inp [206, 207, 215, 217, 208, 209, 165, 210, 219, 211, 212, 164, 213, 214, 232, 233, 234, 235, 237, 238, 239, 256, 257, 258] (by decide +kernel)
set_option maxRecDepth 20000 in
theorem in_wsL_law0_r4 : ∀ w ∈ wsL_law0_r4, w ∈ lw_tbl := q_inp [259, 260, 169, 411, 379, 380, 171, 381, 413, 415, 416, 417, 418, 419, 420, 421, 422, 423, 424, 261, 262, 263, 264, 325] (by decide +kernel)
set_option maxRecDepth 20000 in
theorem in_wsL_law0_r5 : ∀ w ∈ wsL_law0_r5, w ∈ lw_tbl := q_inp [265, 326, 267, 327, 328, 329, 331, 333, 334, 336, 339, 341, 343, 346, 348, 270, 170, 272, 273, 274, 275, 278, 281, 283] (by decide +kernel)
set_option maxRecDepth 20000 in
theorem in_wsL_law0_r6 : ∀ w ∈ wsL_law0_r6, w ∈ lw_tbl := q_inp [285, 287, 289, 291, 294, 297, 300, 383, 384, 385, 386, 388, 391, 394, 396, 387, 453, 454, 455, 456, 460, 458, 462, 464] (by decide +kernel)
set_option maxRecDepth 20000 in
theorem in_wsL_law0_r7 : ∀ w ∈ wsL_law0_r7, w ∈ lw_tbl := q_inp [457, 475, 476, 477, 478, 480, 482, 484, 486, 1864, 1865, 1866, 1867, 1874, 1875, 1876, 1877, 1878, 1879, 1880, 1881, 1882, 1883, 1884] (by decide +kernel)
set_option maxRecDepth 20000 in
theorem in_wsL_law0_r8 : ∀ w ∈ wsL_law0_r8, w ∈ lw_tbl := q_inp [1886, 1887, 1888, 1889, 1890, 1891, 1892, 1893, 1894, 1895, 1896, 1897, 1898, 1899, 1900, 1868, 1901, 1903, 1869, 1904, 1906, 1908, 1909, 1910] (by decide +kernel)
set_option maxRecDepth 20000 in
theorem in_wsL_law0_r9 : ∀ w ∈ wsL_law0_r9, w ∈ lw_tbl := q_inp [1911, 1912, 1913, 1914, 1915, 1916, 1917, 1918, 1920, 1921, 1922, 1923, 1925, 1926, 1927, 1928, 1929, 1930, 1931, 2264, 1932, 1933, 1934, 1935] (by decide +kernel)
set_option maxRecDepth 20000 in
theorem in_wsL_law0_r10 : ∀ w ∈ wsL_law0_r10, w ∈ lw_tbl := q_inp [1936, 1937, 1938, 1939, 1940, 1943, 1944, 1945, 1946, 1947, 1948, 1949, 1950, 1951, 1870, 1954, 1955, 1958, 1959, 1960, 1963, 1966, 1967, 1968] (by decide +kernel)
set_option maxRecDepth 20000 in
theorem in_wsL_law0_r11 : ∀ w ∈ wsL_law0_r11, w ∈ lw_tbl := q_inp [1969, 1970, 1971, 1972, 1973, 1974, 1871, 1975, 1977, 1979, 1980, 1981, 1982, 1872, 1994, 1995, 2000, 2001, 562, 563, 162, 564, 565, 568] (by decide +kernel)
set_option maxRecDepth 20000 in
theorem in_wsL_law0_r12 : ∀ w ∈ wsL_law0_r12, w ∈ lw_tbl := q_inp [569, 570, 571, 648, 179, 665, 180, 644, 646, 463, 240, 572, 574, 0, 575, 576, 178, 681, 682, 683, 684, 685, 686, 687] (by decide +kernel)
set_option maxRecDepth 20000 in
theorem in_wsL_law0_r13 : ∀ w ∈ wsL_law0_r13, w ∈ lw_tbl := q_inp [688, 2269, 2270, 2271, 2272, 2273, 2274, 2275, 2276, 2277, 2278, 2279, 2280, 2281, 2282, 2283, 2284, 2285, 2287, 79, 2288, 2002, 2289, 2290] (by decide +kernel)
set_option maxRecDepth 20000 in
theorem in_wsL_law0_r14 : ∀ w ∈ wsL_law0_r14, w ∈ lw_tbl := q_inp [2291, 2265, 2266, 2267, 2268, 690, 691, 692, 693, 694, 695, 696, 461, 558, 559, 560, 561, 218, 698, 699, 700, 701, 702, 703] (by decide +kernel)
set_option maxRecDepth 20000 in
theorem in_wsL_law0_r15 : ∀ w ∈ wsL_law0_r15, w ∈ lw_tbl := q_inp [704, 705, 220, 221, 706, 708, 2, 709, 710, 712, 3, 713, 714, 716, 4, 717, 764, 722, 182, 723, 765, 718, 719, 181] (by decide +kernel)
set_option maxRecDepth 20000 in
theorem in_wsL_law0_r16 : ∀ w ∈ wsL_law0_r16, w ∈ lw_tbl := q_inp [720, 721, 724, 725, 726, 727, 728, 729, 183, 730, 731, 2809, 732, 751, 752, 753, 754, 755, 757, 758, 759, 760, 761, 763] (by decide +kernel)
set_option maxRecDepth 20000 in
theorem in_wsL_law0_r17 : ∀ w ∈ wsL_law0_r17, w ∈ lw_tbl := q_inp [762, 184, 2292, 2293, 2294, 2295, 766, 767, 768, 769, 770, 771, 772, 479, 481, 483, 485, 487, 773, 775, 5, 776, 2296, 2297] (by decide +kernel)
set_option maxRecDepth 20000 in
theorem in_wsL_law0_r18 : ∀ w ∈ wsL_law0_r18, w ∈ lw_tbl := q_inp [2298, 2299, 780, 781, 782, 783, 784, 785, 786, 465, 2300, 2301, 2302, 2303, 788, 789, 790, 791, 792, 793, 794, 832, 795, 797] (by decide +kernel)
set_option maxRecDepth 20000 in
theorem in_wsL_law0_r19 : ∀ w ∈ wsL_law0_r19, w ∈ lw_tbl := q_inp [6, 798, 800, 802, 7, 803, 805, 806, 807, 808, 810, 812, 8, 813, 814, 815, 182, 816, 817, 819, 9, 820, 821, 822] (by decide +kernel)
set_option maxRecDepth 20000 in
theorem in_wsL_law0_r20 : ∀ w ∈ wsL_law0_r20, w ∈ lw_tbl := q_inp [185, 823, 824, 825, 826, 843, 845, 847, 849, 851, 853, 855, 857, 859, 862, 827, 828, 866, 869, 871, 873, 831, 833, 835] (by decide +kernel)
set_option maxRecDepth 20000 in
theorem in_wsL_law0_r21 : ∀ w ∈ wsL_law0_r21, w ∈ lw_tbl := q_inp [837, 839, 841, 830, 916, 917, 919, 10, 920, 868, 921, 922, 923, 924, 925, 926, 927, 243, 928, 2304, 2305, 2306, 2307, 1885] (by decide +kernel)
set_option maxRecDepth 20000 in
theorem in_wsL_law0_r22 : ∀ w ∈ wsL_law0_r22, w ∈ lw_tbl := q_inp [2308, 2309, 2310, 2311, 2312, 2313, 2314, 2316, 80, 2317, 2318, 2320, 81, 2321, 1905, 1902, 1873, 2322, 2324, 82, 2325, 2326, 2328, 83] (by decide +kernel)
set_option maxRecDepth 20000 in
theorem in_wsL_law0_r23 : ∀ w ∈ wsL_law0_r23, w ∈ lw_tbl := q_inp [2329, 2330, 2331, 2332, 929, 930, 931, 932, 933, 934, 935, 390, 936, 938, 11, 939, 821, 941, 942, 943, 944, 945, 946, 186] (by decide +kernel)
set_option maxRecDepth 20000 in
theorem in_wsL_law0_r24 : ∀ w ∈ wsL_law0_r24, w ∈ lw_tbl := q_inp [947, 948, 949, 187, 950, 951, 952, 953, 954, 955, 957, 12, 958, 960, 961, 962, 963, 2333, 2334, 2335, 2336, 2337, 2339, 84] (by decide +kernel)
set_option maxRecDepth 20000 in
theorem in_wsL_law0_r25 : ∀ w ∈ wsL_law0_r25, w ∈ lw_tbl := q_inp [2340, 2341, 2342, 2343, 2344, 2346, 85, 2347, 965, 966, 967, 968, 969, 970, 971, 844, 838, 398, 412, 973, 975, 13, 976, 977] (by decide +kernel)
set_option maxRecDepth 20000 in
theorem in_wsL_law0_r26 : ∀ w ∈ wsL_law0_r26, w ∈ lw_tbl := q_inp [979, 14, 980, 834, 981, 982, 983, 984, 458, 985, 986, 987, 988, 989, 990, 342, 344, 389, 991, 993, 15, 994, 867, 860] (by decide +kernel)
set_option maxRecDepth 20000 in
theorem in_wsL_law0_r27 : ∀ w ∈ wsL_law0_r27, w ∈ lw_tbl := q_inp [863, 995, 996, 997, 998, 999, 1000, 1001, 1002, 1003, 1004, 1005, 1006, 1007, 1008, 1009, 1010, 1011, 1012, 1013, 1014, 1015, 1017, 1018] (by decide +kernel)
set_option maxRecDepth 20000 in
theorem in_wsL_law0_r28 : ∀ w ∈ wsL_law0_r28, w ∈ lw_tbl := q_inp [1019, 1020, 1021, 1022, 1023, 1025, 16, 1026, 1027, 1028, 1029, 1030, 1031, 1032, 1033, 1034, 1035, 1036, 1037, 1038, 1039, 1041, 17, 1042] (by decide +kernel)
set_option maxRecDepth 20000 in
theorem in_wsL_law0_r29 : ∀ w ∈ wsL_law0_r29, w ∈ lw_tbl := q_inp [340, 1043, 1044, 1045, 1046, 1047, 1048, 1049, 1050, 1051, 1052, 1053, 1054, 1055, 1057, 18, 1058, 337, 1059, 1060, 1061, 1062, 1063, 1064] (by decide +kernel)
set_option maxRecDepth 20000 in
theorem in_wsL_law0_r30 : ∀ w ∈ wsL_law0_r30, w ∈ lw_tbl := q_inp [1065, 1066, 1067, 1068, 1069, 1070, 1071, 1072, 1073, 1074, 1075, 1076, 1077, 1079, 19, 1080, 332, 288, 290, 295, 1081, 1082, 1083, 1084] (by decide +kernel)
set_option maxRecDepth 20000 in
theorem in_wsL_law0_r31 : ∀ w ∈ wsL_law0_r31, w ∈ lw_tbl := q_inp [1085, 1086, 1087, 1088, 1089, 1091, 20, 1092, 347, 399, 1093, 1094, 1095, 1096, 1097, 1098, 1100, 21, 1101, 1102, 1103, 1104, 1105, 1106] (by decide +kernel)
set_option maxRecDepth 20000 in
theorem in_wsL_law0_r32 : ∀ w ∈ wsL_law0_r32, w ∈ lw_tbl := q_inp [1108, 22, 1109, 1110, 1111, 1112, 1113, 1114, 1115, 1117, 23, 1118, 286, 301, 1119, 1120, 1121, 1122, 1123, 1124, 1125, 1126, 1128, 1127] (by decide +kernel)
set_option maxRecDepth 20000 in
theorem in_wsL_law0_r33 : ∀ w ∈ wsL_law0_r33, w ∈ lw_tbl := q_inp [1129, 1130, 1131, 1132, 1133, 1134, 1135, 1136, 296, 1137, 1138, 1140, 24, 1141, 292, 1142, 1144, 25, 1145, 1146, 1147, 1148, 1149, 1150] (by decide +kernel)
set_option maxRecDepth 20000 in
theorem in_wsL_law0_r34 : ∀ w ∈ wsL_law0_r34, w ∈ lw_tbl := q_inp [1151, 1153, 26, 1154, 244, 1192, 1155, 1156, 1157, 1158, 1159, 1161, 27, 1162, 293, 241, 276, 1163, 1164, 1166, 28, 1167, 279, 1168] (by decide +kernel)
set_option maxRecDepth 20000 in
theorem in_wsL_law0_r35 : ∀ w ∈ wsL_law0_r35, w ∈ lw_tbl := q_inp [1170, 29, 1171, 1172, 1173, 1174, 1175, 1176, 1178, 30, 1179, 1180, 1182, 31, 1183, 277, 1184, 1185, 1186, 1187, 282, 1188, 1189, 1190] (by decide +kernel)
set_option maxRecDepth 20000 in
theorem in_wsL_law0_r36 : ∀ w ∈ wsL_law0_r36, w ∈ lw_tbl := q_inp [1191, 1193, 1195, 32, 1196, 1197, 1198, 1199, 1200, 1201, 1203, 33, 1204, 1205, 1207, 34, 1208, 1209, 1210, 1211, 1212, 1213, 1215, 35] (by decide +kernel)
set_option maxRecDepth 20000 in
theorem in_wsL_law0_r37 : ∀ w ∈ wsL_law0_r37, w ∈ lw_tbl := q_inp [1216, 284, 1217, 1219, 36, 1220, 280, 1221, 1222, 1223, 1224, 298, 1225, 1226, 1228, 37, 1229, 299, 1230, 1231, 1232, 1233, 1234, 1235] (by decide +kernel)
set_option maxRecDepth 20000 in
theorem in_wsL_law0_r38 : ∀ w ∈ wsL_law0_r38, w ∈ lw_tbl := q_inp [1237, 38, 1238, 330, 1239, 1241, 39, 1242, 1243, 1245, 40, 1246, 1247, 1249, 41, 1250, 335, 1251, 1252, 1253, 1254, 1255, 1256, 1257] (by decide +kernel)
set_option maxRecDepth 20000 in
theorem in_wsL_law0_r39 : ∀ w ∈ wsL_law0_r39, w ∈ lw_tbl := q_inp [1258, 1259, 1260, 1262, 42, 1263, 349, 1264, 1265, 1266, 1267, 1268, 1269, 1270, 1271, 1272, 1273, 1274, 1275, 2348, 2349, 2350, 2351, 2352] (by decide +kernel)
set_option maxRecDepth 20000 in
theorem in_wsL_law0_r40 : ∀ w ∈ wsL_law0_r40, w ∈ lw_tbl := q_inp [2354, 86, 2355, 1987, 2356, 2358, 87, 2359, 1961, 1997, 1998, 1999, 1962, 1964, 1965, 1976, 1978, 1983, 1984, 1985, 1989, 1990, 1993, 1996] (by decide +kernel)
set_option maxRecDepth 20000 in
theorem in_wsL_law0_r41 : ∀ w ∈ wsL_law0_r41, w ∈ lw_tbl := q_inp [1992, 2360, 2362, 88, 2363, 2364, 2366, 89, 2367, 1991, 2368, 2370, 90, 2371, 2372, 2373, 2375, 91, 2376, 2377, 2379, 92, 2380, 2381] (by decide +kernel)
set_option maxRecDepth 20000 in
theorem in_wsL_law0_r42 : ∀ w ∈ wsL_law0_r42, w ∈ lw_tbl := q_inp [2382, 2384, 93, 2385, 2386, 2388, 94, 2389, 1988, 2390, 2392, 95, 2393, 2394, 2396, 96, 2397, 2398, 2400, 97, 2401, 2402, 2404, 98] (by decide +kernel)
set_option maxRecDepth 20000 in
theorem in_wsL_law0_r43 : ∀ w ∈ wsL_law0_r43, w ∈ lw_tbl := q_inp [2405, 2406, 2408, 99, 2409, 2410, 2412, 100, 2413, 2414, 2416, 101, 2417, 2418, 2420, 102, 2421, 2422, 2424, 103, 2425, 2426, 2428, 104] (by decide +kernel)
set_option maxRecDepth 20000 in
theorem in_wsL_law0_r44 : ∀ w ∈ wsL_law0_r44, w ∈ lw_tbl := q_inp [2429, 2430, 2432, 105, 2433, 2434, 2436, 106, 2437, 2438, 2440, 107, 2441, 2442, 2444, 108, 2445, 1986, 2446, 2448, 109, 2449, 2450, 2452] (by decide +kernel)
set_option maxRecDepth 20000 in
theorem in_wsL_law0_r45 : ∀ w ∈ wsL_law0_r45, w ∈ lw_tbl := q_inp [110, 2453, 2454, 2456, 111, 2457, 2458, 2460, 112, 2461, 2462, 2464, 113, 2465, 2466, 2468, 114, 2469, 2470, 2472, 115, 2473, 2474, 2476] (by decide +kernel)
set_option maxRecDepth 20000 in
theorem in_wsL_law0_r46 : ∀ w ∈ wsL_law0_r46, w ∈ lw_tbl := q_inp [116, 2477, 2478, 2480, 117, 2481, 2482, 2484, 118, 2485, 2486, 2488, 119, 2489, 2490, 2492, 120, 2493, 2494, 2496, 121, 2497, 2498, 2500] (by decide +kernel)
set_option maxRecDepth 20000 in
theorem in_wsL_law0_r47 : ∀ w ∈ wsL_law0_r47, w ∈ lw_tbl := q_inp [122, 2501, 2502, 2504, 123, 2505, 2506, 2508, 124, 2509, 2510, 2512, 125, 2513, 2514, 2516, 126, 2517, 1276, 1277, 1278, 1279, 1280, 1281] (by decide +kernel)
set_option maxRecDepth 20000 in
theorem in_wsL_law0_r48 : ∀ w ∈ wsL_law0_r48, w ∈ lw_tbl := q_inp [1282, 1284, 1286, 43, 1287, 1288, 1289, 1290, 1291, 2518, 2519, 2520, 2521, 2522, 2524, 127, 2525, 2526, 2528, 128, 2529, 1292, 1293, 1294] (by decide +kernel)
set_option maxRecDepth 20000 in
theorem in_wsL_law0_r49 : ∀ w ∈ wsL_law0_r49, w ∈ lw_tbl := q_inp [1295, 1296, 1297, 1298, 1299, 1301, 44, 1302, 1305, 2530, 2531, 2532, 2533, 2534, 2536, 129, 2537, 1306, 1307, 1308, 1309, 1310, 1311, 1312] (by decide +kernel)
set_option maxRecDepth 20000 in
theorem in_wsL_law0_r50 : ∀ w ∈ wsL_law0_r50, w ∈ lw_tbl := q_inp [2538, 2539, 2540, 2541, 1313, 1314, 1315, 1316, 1317, 1318, 1319, 2542, 2543, 2544, 2545, 1320, 1321, 1322, 1323, 1324, 1325, 1326, 1328, 1329] (by decide +kernel)
set_option maxRecDepth 20000 in
theorem in_wsL_law0_r51 : ∀ w ∈ wsL_law0_r51, w ∈ lw_tbl := q_inp [1330, 1331, 2546, 2547, 2548, 2549, 2550, 1332, 1333, 1334, 1335, 1336, 1337, 1338, 846, 2551, 2552, 2553, 2554, 554, 555, 556, 557, 2555] (by decide +kernel)
set_option maxRecDepth 20000 in
theorem in_wsL_law0_r52 : ∀ w ∈ wsL_law0_r52, w ∈ lw_tbl := q_inp [2556, 2557, 2558, 2559, 2561, 130, 2562, 1340, 1341, 1342, 566, 1343, 1344, 1345, 1346, 2563, 2564, 2565, 2566, 1348, 1349, 1350, 1351, 1352] (by decide +kernel)
set_option maxRecDepth 20000 in
theorem in_wsL_law0_r53 : ∀ w ∈ wsL_law0_r53, w ∈ lw_tbl := q_inp [1353, 1354, 836, 1372, 1390, 188, 852, 1355, 1357, 45, 1358, 1360, 1362, 46, 1363, 1364, 1365, 1366, 1367, 393, 397, 1368, 1370, 47] (by decide +kernel)
set_option maxRecDepth 20000 in
theorem in_wsL_law0_r54 : ∀ w ∈ wsL_law0_r54, w ∈ lw_tbl := q_inp [1371, 1372, 1410, 1404, 1373, 1374, 1375, 1376, 1377, 1378, 1379, 1380, 1381, 1382, 1384, 48, 1385, 1386, 1388, 49, 1389, 1391, 1392, 1393] (by decide +kernel)
set_option maxRecDepth 20000 in
theorem in_wsL_law0_r55 : ∀ w ∈ wsL_law0_r55, w ∈ lw_tbl := q_inp [1394, 1409, 1399, 1401, 1403, 865, 392, 1405, 1407, 1395, 1396, 1397, 1398, 395, 2567, 2568, 2569, 2570, 1924, 2571, 2572, 2573, 2574, 2576] (by decide +kernel)
set_option maxRecDepth 20000 in
theorem in_wsL_law0_r56 : ∀ w ∈ wsL_law0_r56, w ∈ lw_tbl := q_inp [131, 2577, 2578, 2580, 132, 2581, 2582, 2584, 133, 2585, 1424, 1425, 1426, 1427, 1428, 1429, 1430, 1402, 1400, 1406, 425, 1432, 1434, 50] (by decide +kernel)
set_option maxRecDepth 20000 in
theorem in_wsL_law0_r57 : ∀ w ∈ wsL_law0_r57, w ∈ lw_tbl := q_inp [1435, 1408, 1436, 1437, 1438, 1439, 1440, 1441, 1442, 1444, 51, 1445, 1446, 1447, 1448, 1449, 1450, 1452, 52, 1453, 864, 861, 414, 856] (by decide +kernel)
set_option maxRecDepth 20000 in
theorem in_wsL_law0_r58 : ∀ w ∈ wsL_law0_r58, w ∈ lw_tbl := q_inp [858, 1454, 1455, 1456, 1457, 1458, 1460, 53, 1461, 338, 1462, 1464, 54, 1465, 1466, 1467, 189, 1468, 1469, 1470, 1471, 1482, 1484, 1486] (by decide +kernel)
set_option maxRecDepth 20000 in
theorem in_wsL_law0_r59 : ∀ w ∈ wsL_law0_r59, w ∈ lw_tbl := q_inp [1488, 1490, 1492, 1472, 1474, 1476, 1478, 1480, 1517, 1518, 1519, 1520, 1521, 1522, 1524, 55, 1525, 1526, 1528, 56, 1529, 1466, 1473, 1475] (by decide +kernel)
set_option maxRecDepth 20000 in
theorem in_wsL_law0_r60 : ∀ w ∈ wsL_law0_r60, w ∈ lw_tbl := q_inp [1483, 840, 842, 1530, 1531, 1532, 1533, 242, 1534, 1535, 1536, 1538, 57, 1539, 1540, 1541, 1543, 58, 1544, 1545, 1547, 59, 1548, 870] (by decide +kernel)
set_option maxRecDepth 20000 in
theorem in_wsL_law0_r61 : ∀ w ∈ wsL_law0_r61, w ∈ lw_tbl := q_inp [872, 1549, 1550, 1552, 60, 1554, 1556, 61, 1557, 1553, 1558, 1560, 62, 1561, 345, 1562, 1563, 1564, 1566, 63, 1567, 2586, 2587, 2588] (by decide +kernel)
set_option maxRecDepth 20000 in
theorem in_wsL_law0_r62 : ∀ w ∈ wsL_law0_r62, w ∈ lw_tbl := q_inp [2589, 2590, 2592, 134, 2593, 2594, 2596, 135, 2597, 2598, 2600, 136, 2601, 1953, 2602, 2604, 137, 2605, 1907, 2606, 2608, 138, 2609, 1919] (by decide +kernel)
set_option maxRecDepth 20000 in
theorem in_wsL_law0_r63 : ∀ w ∈ wsL_law0_r63, w ∈ lw_tbl := q_inp [2610, 2612, 139, 2613, 2614, 2616, 140, 2617, 2618, 2620, 141, 2621, 2622, 2624, 142, 2625, 2626, 2628, 143, 2629, 2630, 2632, 144, 2633] (by decide +kernel)
set_option maxRecDepth 20000 in
theorem in_wsL_law0_r64 : ∀ w ∈ wsL_law0_r64, w ∈ lw_tbl := q_inp [1568, 1569, 1570, 1571, 1572, 1573, 1574, 2634, 2635, 2636, 2637, 1575, 1576, 1577, 1578, 1579, 1580, 1581, 2638, 2639, 2640, 2641, 1582, 1583] (by decide +kernel)
set_option maxRecDepth 20000 in
theorem in_wsL_law0_r65 : ∀ w ∈ wsL_law0_r65, w ∈ lw_tbl := q_inp [1584, 1585, 1586, 1587, 1588, 1477, 1487, 1479, 1589, 1590, 1591, 1592, 2642, 2643, 2644, 2645, 1593, 1594, 1595, 1596, 1597, 1598, 1599, 1600] (by decide +kernel)
set_option maxRecDepth 20000 in
theorem in_wsL_law0_r66 : ∀ w ∈ wsL_law0_r66, w ∈ lw_tbl := q_inp [1602, 64, 1603, 2646, 2647, 2648, 2649, 2650, 2652, 145, 2653, 1605, 1606, 1607, 1608, 1609, 1610, 1611, 1612, 1614, 65, 1615, 1485, 2654] (by decide +kernel)
set_option maxRecDepth 20000 in
theorem in_wsL_law0_r67 : ∀ w ∈ wsL_law0_r67, w ∈ lw_tbl := q_inp [2655, 2656, 2657, 2658, 2660, 146, 2661, 1616, 1617, 1618, 1619, 1620, 1621, 1622, 1493, 1491, 2662, 2663, 2664, 2665, 1623, 1624, 1625, 1626] (by decide +kernel)
set_option maxRecDepth 20000 in
theorem in_wsL_law0_r68 : ∀ w ∈ wsL_law0_r68, w ∈ lw_tbl := q_inp [1627, 1628, 1629, 2666, 2667, 2668, 2669, 1630, 1631, 1632, 1633, 1634, 1635, 1636, 1655, 1638, 1640, 66, 1641, 1642, 1644, 67, 1645, 1646] (by decide +kernel)
set_option maxRecDepth 20000 in
theorem in_wsL_law0_r69 : ∀ w ∈ wsL_law0_r69, w ∈ lw_tbl := q_inp [1647, 1649, 68, 1650, 1481, 1489, 1651, 1653, 69, 1654, 1656, 1658, 70, 1659, 1794, 1796, 1788, 1790, 1677, 1660, 1662, 71, 1663, 1792] (by decide +kernel)
set_option maxRecDepth 20000 in
theorem in_wsL_law0_r70 : ∀ w ∈ wsL_law0_r70, w ∈ lw_tbl := q_inp [1664, 1666, 72, 1667, 1780, 1782, 1668, 1669, 1670, 190, 1671, 1783, 1672, 1673, 1675, 73, 1676, 1786, 2670, 2671, 2672, 2673, 1942, 2674] (by decide +kernel)
set_option maxRecDepth 20000 in
theorem in_wsL_law0_r71 : ∀ w ∈ wsL_law0_r71, w ∈ lw_tbl := q_inp [2676, 147, 2677, 2678, 2680, 148, 2681, 2682, 2684, 149, 2685, 1941, 2686, 2688, 150, 2689, 2690, 2692, 151, 2693, 2694, 2696, 152, 2697] (by decide +kernel)
set_option maxRecDepth 20000 in
theorem in_wsL_law0_r72 : ∀ w ∈ wsL_law0_r72, w ∈ lw_tbl := q_inp [2698, 2699, 2700, 2701, 2703, 153, 2704, 1678, 1679, 1680, 1681, 1682, 1683, 1684, 1685, 1687, 74, 1688, 2705, 2706, 2707, 2708, 2709, 2711] (by decide +kernel)
set_option maxRecDepth 20000 in
theorem in_wsL_law0_r73 : ∀ w ∈ wsL_law0_r73, w ∈ lw_tbl := q_inp [154, 2712, 1690, 1691, 1692, 1693, 1694, 1695, 1696, 2713, 2714, 2715, 2716, 1697, 1698, 1699, 1700, 1701, 1702, 1703, 1704, 1705, 1706, 1707] (by decide +kernel)
set_option maxRecDepth 20000 in
theorem in_wsL_law0_r74 : ∀ w ∈ wsL_law0_r74, w ∈ lw_tbl := q_inp [1710, 1711, 1712, 1713, 1714, 1715, 1716, 1717, 1718, 1719, 1721, 75, 1722, 1723, 1725, 76, 1726, 1727, 1728, 1729, 1730, 1731, 1732, 1733] (by decide +kernel)
set_option maxRecDepth 20000 in
theorem in_wsL_law0_r75 : ∀ w ∈ wsL_law0_r75, w ∈ lw_tbl := q_inp [1734, 2717, 2718, 2719, 2720, 2721, 2723, 155, 2724, 2725, 2727, 156, 2728, 2729, 2731, 157, 2732, 2733, 2735, 158, 2736, 2737, 2739, 159] (by decide +kernel)
set_option maxRecDepth 20000 in
theorem in_wsL_law0_r76 : ∀ w ∈ wsL_law0_r76, w ∈ lw_tbl := q_inp [2740, 1735, 1736, 1737, 1738, 1739, 1740, 1741, 848, 1743, 2741, 2742, 2743, 2744, 2745, 2746, 2747, 1744, 1745, 1746, 567, 1747, 1748, 1749] (by decide +kernel)
set_option maxRecDepth 20000 in
theorem in_wsL_law0_r77 : ∀ w ∈ wsL_law0_r77, w ∈ lw_tbl := q_inp [1750, 1752, 1754, 77, 1755, 874, 850, 1756, 2748, 2749, 2750, 2751, 1956, 2752, 2754, 160, 2755, 1957, 1757, 1758, 1759, 1760, 1761, 1762] (by decide +kernel)
set_option maxRecDepth 20000 in
theorem in_wsL_law0_r78 : ∀ w ∈ wsL_law0_r78, w ∈ lw_tbl := q_inp [1763, 2756, 2757, 2758, 2759, 1765, 1766, 1767, 1768, 1769, 1770, 1771, 1655, 1774, 1775, 1776, 1777, 1778, 1789, 1791, 1793, 1795, 1779, 1781] (by decide +kernel)
set_option maxRecDepth 20000 in
theorem in_wsL_law0_r79 : ∀ w ∈ wsL_law0_r79, w ∈ lw_tbl := q_inp [1785, 1787, 2760, 2761, 2762, 2763, 1816, 1817, 1818, 1819, 1820, 1821, 1822, 1823, 1825, 78, 1826, 2764, 2765, 2766, 2767, 2768, 2770, 161] (by decide +kernel)
set_option maxRecDepth 20000 in
theorem in_wsL_law0_r80 : ∀ w ∈ wsL_law0_r80, w ∈ lw_tbl := q_inp [2771, 1828, 1829, 1830, 1831, 1832, 1833, 1834, 1784, 1836, 1837, 1838, 1839, 2772, 2773, 2774, 2775, 1840, 1841, 1842, 1843, 1844, 1845, 1846] (by decide +kernel)
set_option maxRecDepth 20000 in
theorem in_wsL_law0_r81 : ∀ w ∈ wsL_law0_r81, w ∈ lw_tbl := q_inp [2776, 2777, 2778, 2779, 1848, 1849, 1850, 1851, 1852, 1853, 1854, 854, 2780, 2781, 2782, 2783, 1952, 1855, 1856, 1857, 1858, 1859, 1860, 1861] (by decide +kernel)
set_option maxRecDepth 20000 in
theorem in_wsL_law0_r82 : ∀ w ∈ wsL_law0_r82, w ∈ lw_tbl := q_inp [2784, 2785, 2786, 2787] (by decide +kernel)
set_option maxRecDepth 20000 in
theorem in_wsX110 : ∀ w ∈ wsX110, w ∈ lw_tbl := q_inp [517, 519, 521, 523, 525, 527, 529, 531, 533, 535, 537, 539, 541, 543, 545, 547, 549, 551] (by decide +kernel)
set_option maxRecDepth 20000 in
theorem in_wsX120 : ∀ w ∈ wsX120, w ∈ lw_tbl := q_inp [2003, 2005, 2007, 2009, 2011, 2013, 2015, 2017, 2019, 2021, 2023, 2025, 2027, 2029, 2031, 2033, 2035, 2037, 2039, 2041, 2043, 2045, 2047, 2049, 2051, 2053, 2055, 2057, 2059, 2061, 2063, 2065, 2067, 2069, 2071, 2073, 2075, 2077, 2079, 2081, 2083, 2085, 2087, 2089, 2091, 2093, 2095, 2097, 2099, 2101, 2103, 2105, 2107, 2109, 2111, 2113, 2115, 2117, 2119, 2121, 2123, 2125, 2127, 2129, 2131, 2133, 2135, 2137, 2139, 2141, 2143, 2145, 2147, 2149, 2151, 2153, 2155, 2157, 2159, 2161, 2163, 2165, 2167, 2169, 2171, 2173, 2175, 2177, 2179, 2181, 2183, 2185, 2187, 2189, 2191, 2193, 2195, 2197, 2199, 2201, 2203, 2205, 2207, 2209, 2211, 2213, 2215, 2217, 2219, 2221, 2223, 2225, 2227, 2229, 2231, 2233, 2235, 2237, 2239, 2241, 2243, 2245, 2247, 2249, 2251, 2253, 2255, 2257, 2259, 2261] (by decide +kernel)
set_option maxRecDepth 20000 in
theorem in_wsJx4a65c0 : ∀ w ∈ wsJx4a65c0, w ∈ lw_tbl := q_inp [226, 222, 224] (by decide +kernel)
set_option maxRecDepth 20000 in
theorem in_wsX50 : ∀ w ∈ wsX50, w ∈ lw_tbl := q_inp [245, 247, 249] (by decide +kernel)
set_option maxRecDepth 20000 in
theorem in_wsX40 : ∀ w ∈ wsX40, w ∈ lw_tbl := q_inp [426, 428, 430, 432, 434, 436, 438, 440, 442, 444, 446, 448] (by decide +kernel)
set_option maxRecDepth 20000 in
theorem in_wsX100 : ∀ w ∈ wsX100, w ∈ lw_tbl := q_inp [466, 468, 470] (by decide +kernel)
set_option maxRecDepth 20000 in
theorem in_wsX30 : ∀ w ∈ wsX30, w ∈ lw_tbl := q_inp [488, 490, 492, 494, 496] (by decide +kernel)
set_option maxRecDepth 20000 in
theorem in_wsX80 : ∀ w ∈ wsX80, w ∈ lw_tbl := q_inp [350, 352, 354, 356, 358, 360, 362, 364, 366, 368, 370, 372, 374, 376] (by decide +kernel)
set_option maxRecDepth 20000 in
theorem in_wsX20 : ∀ w ∈ wsX20, w ∈ lw_tbl := q_inp [400, 402, 404, 406, 408] (by decide +kernel)
set_option maxRecDepth 20000 in
theorem in_wsX10 : ∀ w ∈ wsX10, w ∈ lw_tbl := q_inp [302, 304, 306, 308, 310, 312, 314, 316, 318, 320, 322] (by decide +kernel)
set_option maxRecDepth 20000 in
theorem in_wsX60 : ∀ w ∈ wsX60, w ∈ lw_tbl := q_inp [875, 877, 879, 881, 883, 885, 887, 889, 891, 893, 895, 897, 899, 901, 903, 905, 907, 909, 911, 913] (by decide +kernel)
set_option maxRecDepth 20000 in
theorem in_wsX90 : ∀ w ∈ wsX90, w ∈ lw_tbl := q_inp [1411, 1413, 1415, 1417, 1419, 1421] (by decide +kernel)
set_option maxRecDepth 20000 in
theorem in_wsX00 : ∀ w ∈ wsX00, w ∈ lw_tbl := q_inp [1494, 1496, 1498, 1500, 1502, 1504, 1506, 1508, 1510, 1512, 1514] (by decide +kernel)
set_option maxRecDepth 20000 in
theorem in_wsX70 : ∀ w ∈ wsX70, w ∈ lw_tbl := q_inp [1797, 1799, 1801, 1803, 1805, 1807, 1809, 1811, 1813] (by decide +kernel)
set_option maxRecDepth 100000 in
theorem wsL_law_in0 : ∀ w ∈ wsL_law0, w ∈ lw_tbl := by
  unfold wsL_law0
  exact List.forall_mem_append.mpr ⟨List.forall_mem_append.mpr ⟨List.forall_mem_append.mpr ⟨List.forall_mem_append.mpr ⟨List.forall_mem_append.mpr ⟨List.forall_mem_append.mpr ⟨List.forall_mem_append.mpr ⟨List.forall_mem_append.mpr ⟨List.forall_mem_append.mpr ⟨List.forall_mem_append.mpr ⟨List.forall_mem_append.mpr ⟨List.forall_mem_append.mpr ⟨List.forall_mem_append.mpr ⟨List.forall_mem_append.mpr ⟨List.forall_mem_append.mpr ⟨List.forall_mem_append.mpr ⟨in_wsL_law0_r1, List.forall_mem_append.mpr ⟨in_wsL_law0_r2, List.forall_mem_append.mpr ⟨in_wsL_law0_r3, List.forall_mem_append.mpr ⟨in_wsL_law0_r4, List.forall_mem_append.mpr ⟨in_wsL_law0_r5, List.forall_mem_append.mpr ⟨in_wsL_law0_r6, List.forall_mem_append.mpr ⟨in_wsL_law0_r7, List.forall_mem_append.mpr ⟨in_wsL_law0_r8, List.forall_mem_append.mpr ⟨in_wsL_law0_r9, List.forall_mem_append.mpr ⟨in_wsL_law0_r10, List.forall_mem_append.mpr ⟨in_wsL_law0_r11, List.forall_mem_append.mpr ⟨in_wsL_law0_r12, List.forall_mem_append.mpr ⟨in_wsL_law0_r13, List.forall_mem_append.mpr ⟨in_wsL_law0_r14, List.forall_mem_append.mpr ⟨in_wsL_law0_r15, List.forall_mem_append.mpr ⟨in_wsL_law0_r16, List.forall_mem_append.mpr ⟨in_wsL_law0_r17, List.forall_mem_append.mpr ⟨in_wsL_law0_r18, List.forall_mem_append.mpr ⟨in_wsL_law0_r19, List.forall_mem_append.mpr ⟨in_wsL_law0_r20, List.forall_mem_append.mpr ⟨in_wsL_law0_r21, List.forall_mem_append.mpr ⟨in_wsL_law0_r22, List.forall_mem_append.mpr ⟨in_wsL_law0_r23, List.forall_mem_append.mpr ⟨in_wsL_law0_r24, List.forall_mem_append.mpr ⟨in_wsL_law0_r25, List.forall_mem_append.mpr ⟨in_wsL_law0_r26, List.forall_mem_append.mpr ⟨in_wsL_law0_r27, List.forall_mem_append.mpr ⟨in_wsL_law0_r28, List.forall_mem_append.mpr ⟨in_wsL_law0_r29, List.forall_mem_append.mpr ⟨in_wsL_law0_r30, List.forall_mem_append.mpr ⟨in_wsL_law0_r31, List.forall_mem_append.mpr ⟨in_wsL_law0_r32, List.forall_mem_append.mpr ⟨in_wsL_law0_r33, List.forall_mem_append.mpr ⟨in_wsL_law0_r34, List.forall_mem_append.mpr ⟨in_wsL_law0_r35, List.forall_mem_append.mpr ⟨in_wsL_law0_r36, List.forall_mem_append.mpr ⟨in_wsL_law0_r37, List.forall_mem_append.mpr ⟨in_wsL_law0_r38, List.forall_mem_append.mpr ⟨in_wsL_law0_r39, List.forall_mem_append.mpr ⟨in_wsL_law0_r40, List.forall_mem_append.mpr ⟨in_wsL_law0_r41, List.forall_mem_append.mpr ⟨in_wsL_law0_r42, List.forall_mem_append.mpr ⟨in_wsL_law0_r43, List.forall_mem_append.mpr ⟨in_wsL_law0_r44, List.forall_mem_append.mpr ⟨in_wsL_law0_r45, List.forall_mem_append.mpr ⟨in_wsL_law0_r46, List.forall_mem_append.mpr ⟨in_wsL_law0_r47, List.forall_mem_append.mpr ⟨in_wsL_law0_r48, List.forall_mem_append.mpr ⟨in_wsL_law0_r49, List.forall_mem_append.mpr ⟨in_wsL_law0_r50, List.forall_mem_append.mpr ⟨in_wsL_law0_r51, List.forall_mem_append.mpr ⟨in_wsL_law0_r52, List.forall_mem_append.mpr ⟨in_wsL_law0_r53, List.forall_mem_append.mpr ⟨in_wsL_law0_r54, List.forall_mem_append.mpr ⟨in_wsL_law0_r55, List.forall_mem_append.mpr ⟨in_wsL_law0_r56, List.forall_mem_append.mpr ⟨in_wsL_law0_r57, List.forall_mem_append.mpr ⟨in_wsL_law0_r58, List.forall_mem_append.mpr ⟨in_wsL_law0_r59, List.forall_mem_append.mpr ⟨in_wsL_law0_r60, List.forall_mem_append.mpr ⟨in_wsL_law0_r61, List.forall_mem_append.mpr ⟨in_wsL_law0_r62, List.forall_mem_append.mpr ⟨in_wsL_law0_r63, List.forall_mem_append.mpr ⟨in_wsL_law0_r64, List.forall_mem_append.mpr ⟨in_wsL_law0_r65, List.forall_mem_append.mpr ⟨in_wsL_law0_r66, List.forall_mem_append.mpr ⟨in_wsL_law0_r67, List.forall_mem_append.mpr ⟨in_wsL_law0_r68, List.forall_mem_append.mpr ⟨in_wsL_law0_r69, List.forall_mem_append.mpr ⟨in_wsL_law0_r70, List.forall_mem_append.mpr ⟨in_wsL_law0_r71, List.forall_mem_append.mpr ⟨in_wsL_law0_r72, List.forall_mem_append.mpr ⟨in_wsL_law0_r73, List.forall_mem_append.mpr ⟨in_wsL_law0_r74, List.forall_mem_append.mpr ⟨in_wsL_law0_r75, List.forall_mem_append.mpr ⟨in_wsL_law0_r76, List.forall_mem_append.mpr ⟨in_wsL_law0_r77, List.forall_mem_append.mpr ⟨in_wsL_law0_r78, List.forall_mem_append.mpr ⟨in_wsL_law0_r79, List.forall_mem_append.mpr ⟨in_wsL_law0_r80, List.forall_mem_append.mpr ⟨in_wsL_law0_r81, in_wsL_law0_r82⟩⟩⟩⟩⟩⟩⟩⟩⟩⟩⟩⟩⟩⟩⟩⟩⟩⟩⟩⟩⟩⟩⟩⟩⟩⟩⟩⟩⟩⟩⟩⟩⟩⟩⟩⟩⟩⟩⟩⟩⟩⟩⟩⟩⟩⟩⟩⟩⟩⟩⟩⟩⟩⟩⟩⟩⟩⟩⟩⟩⟩⟩⟩⟩⟩⟩⟩⟩⟩⟩⟩⟩⟩⟩⟩⟩⟩⟩⟩⟩⟩, in_wsX110⟩, in_wsX120⟩, in_wsJx4a65c0⟩, in_wsX50⟩, in_wsX40⟩, in_wsX100⟩, in_wsX30⟩, in_wsX80⟩, in_wsX20⟩, in_wsX10⟩, in_wsX60⟩, in_wsX90⟩, in_wsX00⟩, in_wsX70⟩, fun _ h => (List.not_mem_nil h).elim⟩
set_option maxRecDepth 20000 in
theorem wsL_law_x0 : ∀ w ∈ (vx_atS RX11 100 "java/lang/IllegalArgumentException" ["java/lang/RuntimeException", "java/lang/Exception"]).filter goodWord, w ∈ lw_tbl := q_inp [175, 598, 607, 611, 614, 616, 599, 600, 197, 198, 601, 606, 612, 632, 588, 633, 590, 634, 592, 602, 604, 594, 628, 629, 631, 594, 659, 660, 661, 622, 622, 623, 624, 625, 625, 626, 627, 628, 658, 649, 651, 609, 652, 653, 654, 655, 597, 596, 656] (by decide +kernel)
set_option maxRecDepth 20000 in
theorem wsL_law_x1 : ∀ w ∈ (vx_atS RX11 115 "java/lang/IllegalStateException" ["java/lang/RuntimeException", "java/lang/Exception"]).filter goodWord, w ∈ lw_tbl := q_inp [175, 598, 607, 611, 614, 616, 599, 600, 197, 198, 601, 606, 612, 632, 588, 633, 590, 634, 592, 602, 604, 594, 628, 629, 631, 594, 676, 677, 678, 622, 622, 623, 624, 625, 625, 626, 627, 628, 675, 666, 668, 610, 669, 670, 671, 672, 597, 596, 673] (by decide +kernel)
set_option maxRecDepth 20000 in
theorem wsL_law_x2 : ∀ w ∈ (vx_atS RX11 259 "java/lang/IndexOutOfBoundsException" ["java/lang/RuntimeException", "java/lang/Exception"]).filter goodWord, w ∈ lw_tbl := q_inp [175, 598, 607, 611, 614, 616, 599, 600, 197, 198, 601, 606, 612, 632, 588, 633, 590, 634, 592, 602, 604, 594, 628, 629, 631, 594, 619, 620, 621, 622, 622, 623, 624, 625, 625, 626, 627, 628, 618, 577, 585, 586, 587, 589, 591, 593, 597, 596, 595] (by decide +kernel)
theorem wsL_law_in : ∀ w ∈ wsL_law, w ∈ lw_tbl := fun w h => (List.mem_append.mp h).elim (fun h => (List.mem_append.mp h).elim (fun h => (List.mem_append.mp h).elim (fun h => wsL_law_in0 w h) (fun h => wsL_law_x0 w h)) (fun h => wsL_law_x1 w h)) (fun h => wsL_law_x2 w h)
theorem inX0 : ∀ w ∈ wsX00, w ∈ lw_tbl := fun w h => wsL_law_in w (inlX0 w h)
theorem inX1 : ∀ w ∈ wsX10, w ∈ lw_tbl := fun w h => wsL_law_in w (inlX1 w h)
theorem inX2 : ∀ w ∈ wsX20, w ∈ lw_tbl := fun w h => wsL_law_in w (inlX2 w h)
theorem inX3 : ∀ w ∈ wsX30, w ∈ lw_tbl := fun w h => wsL_law_in w (inlX3 w h)
theorem inX4 : ∀ w ∈ wsX40, w ∈ lw_tbl := fun w h => wsL_law_in w (inlX4 w h)
theorem inX5 : ∀ w ∈ wsX50, w ∈ lw_tbl := fun w h => wsL_law_in w (inlX5 w h)
theorem inX6 : ∀ w ∈ wsX60, w ∈ lw_tbl := fun w h => wsL_law_in w (inlX6 w h)
theorem inX7 : ∀ w ∈ wsX70, w ∈ lw_tbl := fun w h => wsL_law_in w (inlX7 w h)
theorem inX8 : ∀ w ∈ wsX80, w ∈ lw_tbl := fun w h => wsL_law_in w (inlX8 w h)
theorem inX9 : ∀ w ∈ wsX90, w ∈ lw_tbl := fun w h => wsL_law_in w (inlX9 w h)
theorem inX10 : ∀ w ∈ wsX100, w ∈ lw_tbl := fun w h => wsL_law_in w (inlX10 w h)
theorem inX11 : ∀ w ∈ wsX110, w ∈ lw_tbl := fun w h => wsL_law_in w (inlX11 w h)
theorem inX12 : ∀ w ∈ wsX120, w ∈ lw_tbl := fun w h => wsL_law_in w (inlX12 w h)
theorem inJx4a65c : ∀ w ∈ wsJx4a65c0, w ∈ lw_tbl := fun w h => wsL_law_in w (inlJx4a65c w h)
