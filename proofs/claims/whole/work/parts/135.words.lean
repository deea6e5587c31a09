/-! all words of rf_WS stand among the law's tables (written by wip/tool/words.py) -/
set_option maxRecDepth 20000 in
theorem wi_wsL_law0_r1 : ∀ w ∈ wsL_law0_r1, w ∈ lw_tbl := fun w h => (goodIn_p wsL_law0_r1 [191, 194] (by decide +kernel) (by decide +kernel) w h).1
set_option maxRecDepth 20000 in
theorem wi_wsL_law0_r2 : ∀ w ∈ wsL_law0_r2, w ∈ lw_tbl := fun w h => (goodIn_p wsL_law0_r2 [] (by decide +kernel) (by decide +kernel) w h).1
set_option maxRecDepth 20000 in
theorem wi_wsL_law0_r3 : ∀ w ∈ wsL_law0_r3, w ∈ lw_tbl := fun w h => (goodIn_p wsL_law0_r3 [199, 258] (by decide +kernel) (by decide +kernel) w h).1
set_option maxRecDepth 20000 in
theorem wi_wsL_law0_r4 : ∀ w ∈ wsL_law0_r4, w ∈ lw_tbl := fun w h => (goodIn_p wsL_law0_r4 [264, 374] (by decide +kernel) (by decide +kernel) w h).1
set_option maxRecDepth 20000 in
theorem wi_wsL_law0_r5 : ∀ w ∈ wsL_law0_r5, w ∈ lw_tbl := fun w h => (goodIn_p wsL_law0_r5 [460] (by decide +kernel) (by decide +kernel) w h).1
set_option maxRecDepth 20000 in
theorem wi_wsL_law0_r6 : ∀ w ∈ wsL_law0_r6, w ∈ lw_tbl := fun w h => (goodIn_p wsL_law0_r6 [504, 540] (by decide +kernel) (by decide +kernel) w h).1
set_option maxRecDepth 20000 in
theorem wi_wsL_law0_r7 : ∀ w ∈ wsL_law0_r7, w ∈ lw_tbl := fun w h => (goodIn_p wsL_law0_r7 [548, 624] (by decide +kernel) (by decide +kernel) w h).1
set_option maxRecDepth 20000 in
theorem wi_wsL_law0_r8 : ∀ w ∈ wsL_law0_r8, w ∈ lw_tbl := fun w h => (goodIn_p wsL_law0_r8 [695, 748] (by decide +kernel) (by decide +kernel) w h).1
set_option maxRecDepth 20000 in
theorem wi_wsL_law0_r9 : ∀ w ∈ wsL_law0_r9, w ∈ lw_tbl := fun w h => (goodIn_p wsL_law0_r9 [2159] (by decide +kernel) (by decide +kernel) w h).1
set_option maxRecDepth 20000 in
theorem wi_wsL_law0_r10 : ∀ w ∈ wsL_law0_r10, w ∈ lw_tbl := fun w h => (goodIn_p wsL_law0_r10 [] (by decide +kernel) (by decide +kernel) w h).1
set_option maxRecDepth 20000 in
theorem wi_wsL_law0_r11 : ∀ w ∈ wsL_law0_r11, w ∈ lw_tbl := fun w h => (goodIn_p wsL_law0_r11 [] (by decide +kernel) (by decide +kernel) w h).1
set_option maxRecDepth 20000 in
theorem wi_wsL_law0_r12 : ∀ w ∈ wsL_law0_r12, w ∈ lw_tbl := fun w h => (goodIn_p wsL_law0_r12 [] (by decide +kernel) (by decide +kernel) w h).1
set_option maxRecDepth 20000 in
theorem wi_wsL_law0_r13 : ∀ w ∈ wsL_law0_r13, w ∈ lw_tbl := fun w h => (goodIn_p wsL_law0_r13 [] (by decide +kernel) (by decide +kernel) w h).1
set_option maxRecDepth 20000 in
theorem wi_wsL_law0_r14 : ∀ w ∈ wsL_law0_r14, w ∈ lw_tbl := fun w h => (goodIn_p wsL_law0_r14 [2167, 2205, 844, 847] (by decide +kernel) (by decide +kernel) w h).1
set_option maxRecDepth 20000 in
theorem wi_wsL_law0_r15 : ∀ w ∈ wsL_law0_r15, w ∈ lw_tbl := fun w h => (goodIn_p wsL_law0_r15 [850, 854, 858, 2676, 2679, 2683] (by decide +kernel) (by decide +kernel) w h).1
set_option maxRecDepth 20000 in
theorem wi_wsL_law0_r16 : ∀ w ∈ wsL_law0_r16, w ∈ lw_tbl := fun w h => (goodIn_p wsL_law0_r16 [2686, 2690, 862, 866, 870, 874] (by decide +kernel) (by decide +kernel) w h).1
set_option maxRecDepth 20000 in
theorem wi_wsL_law0_r17 : ∀ w ∈ wsL_law0_r17, w ∈ lw_tbl := fun w h => (goodIn_p wsL_law0_r17 [878, 2694, 2698, 2702, 882] (by decide +kernel) (by decide +kernel) w h).1
set_option maxRecDepth 20000 in
theorem wi_wsL_law0_r18 : ∀ w ∈ wsL_law0_r18, w ∈ lw_tbl := fun w h => (goodIn_p wsL_law0_r18 [886, 890, 2706, 2710, 894] (by decide +kernel) (by decide +kernel) w h).1
set_option maxRecDepth 20000 in
theorem wi_wsL_law0_r19 : ∀ w ∈ wsL_law0_r19, w ∈ lw_tbl := fun w h => (goodIn_p wsL_law0_r19 [2714, 898, 901, 904, 908, 912, 2718] (by decide +kernel) (by decide +kernel) w h).1
set_option maxRecDepth 20000 in
theorem wi_wsL_law0_r20 : ∀ w ∈ wsL_law0_r20, w ∈ lw_tbl := fun w h => (goodIn_p wsL_law0_r20 [931, 2721, 2724, 916, 920, 925] (by decide +kernel) (by decide +kernel) w h).1
set_option maxRecDepth 20000 in
theorem wi_wsL_law0_r21 : ∀ w ∈ wsL_law0_r21, w ∈ lw_tbl := fun w h => (goodIn_p wsL_law0_r21 [928, 935, 939, 943, 946, 2729] (by decide +kernel) (by decide +kernel) w h).1
set_option maxRecDepth 20000 in
theorem wi_wsL_law0_r22 : ∀ w ∈ wsL_law0_r22, w ∈ lw_tbl := fun w h => (goodIn_p wsL_law0_r22 [2734, 2738, 2741, 950, 954] (by decide +kernel) (by decide +kernel) w h).1
set_option maxRecDepth 20000 in
theorem wi_wsL_law0_r23 : ∀ w ∈ wsL_law0_r23, w ∈ lw_tbl := fun w h => (goodIn_p wsL_law0_r23 [2745, 958, 962, 966, 2749] (by decide +kernel) (by decide +kernel) w h).1
set_option maxRecDepth 20000 in
theorem wi_wsL_law0_r24 : ∀ w ∈ wsL_law0_r24, w ∈ lw_tbl := fun w h => (goodIn_p wsL_law0_r24 [970, 974, 978, 981, 988] (by decide +kernel) (by decide +kernel) w h).1
set_option maxRecDepth 20000 in
theorem wi_wsL_law0_r25 : ∀ w ∈ wsL_law0_r25, w ∈ lw_tbl := fun w h => (goodIn_p wsL_law0_r25 [992, 996, 2753, 2757, 2761] (by decide +kernel) (by decide +kernel) w h).1
set_option maxRecDepth 20000 in
theorem wi_wsL_law0_r26 : ∀ w ∈ wsL_law0_r26, w ∈ lw_tbl := fun w h => (goodIn_p wsL_law0_r26 [2769, 1000, 1004, 1008, 1012, 1016] (by decide +kernel) (by decide +kernel) w h).1
set_option maxRecDepth 20000 in
theorem wi_wsL_law0_r27 : ∀ w ∈ wsL_law0_r27, w ∈ lw_tbl := fun w h => (goodIn_p wsL_law0_r27 [1066, 1020, 1024, 1029, 1032] (by decide +kernel) (by decide +kernel) w h).1
set_option maxRecDepth 20000 in
theorem wi_wsL_law0_r28 : ∀ w ∈ wsL_law0_r28, w ∈ lw_tbl := fun w h => (goodIn_p wsL_law0_r28 [1037, 1041, 1046, 1050, 1054] (by decide +kernel) (by decide +kernel) w h).1
set_option maxRecDepth 20000 in
theorem wi_wsL_law0_r29 : ∀ w ∈ wsL_law0_r29, w ∈ lw_tbl := fun w h => (goodIn_p wsL_law0_r29 [1058, 1061, 2781, 2777, 2785, 2789] (by decide +kernel) (by decide +kernel) w h).1
set_option maxRecDepth 20000 in
theorem wi_wsL_law0_r30 : ∀ w ∈ wsL_law0_r30, w ∈ lw_tbl := fun w h => (goodIn_p wsL_law0_r30 [2793, 2797, 2801, 2805] (by decide +kernel) (by decide +kernel) w h).1
set_option maxRecDepth 20000 in
theorem wi_wsL_law0_r31 : ∀ w ∈ wsL_law0_r31, w ∈ lw_tbl := fun w h => (goodIn_p wsL_law0_r31 [2809, 2813, 1684, 2819, 1071] (by decide +kernel) (by decide +kernel) w h).1
set_option maxRecDepth 20000 in
theorem wi_wsL_law0_r32 : ∀ w ∈ wsL_law0_r32, w ∈ lw_tbl := fun w h => (goodIn_p wsL_law0_r32 [1077, 2773, 1081, 1085, 1089, 1093] (by decide +kernel) (by decide +kernel) w h).1
set_option maxRecDepth 20000 in
theorem wi_wsL_law0_r33 : ∀ w ∈ wsL_law0_r33, w ∈ lw_tbl := fun w h => (goodIn_p wsL_law0_r33 [1097, 1101, 1107, 1111, 2824] (by decide +kernel) (by decide +kernel) w h).1
set_option maxRecDepth 20000 in
theorem wi_wsL_law0_r34 : ∀ w ∈ wsL_law0_r34, w ∈ lw_tbl := fun w h => (goodIn_p wsL_law0_r34 [2828, 2832, 2836, 2840, 1115] (by decide +kernel) (by decide +kernel) w h).1
set_option maxRecDepth 20000 in
theorem wi_wsL_law0_r35 : ∀ w ∈ wsL_law0_r35, w ∈ lw_tbl := fun w h => (goodIn_p wsL_law0_r35 [2844, 2086, 2153, 1880, 2848] (by decide +kernel) (by decide +kernel) w h).1
set_option maxRecDepth 20000 in
theorem wi_wsL_law0_r36 : ∀ w ∈ wsL_law0_r36, w ∈ lw_tbl := fun w h => (goodIn_p wsL_law0_r36 [2672, 1121, 1125, 1129, 2852] (by decide +kernel) (by decide +kernel) w h).1
set_option maxRecDepth 20000 in
theorem wi_wsL_law0_r37 : ∀ w ∈ wsL_law0_r37, w ∈ lw_tbl := fun w h => (goodIn_p wsL_law0_r37 [1133, 1136, 1140] (by decide +kernel) (by decide +kernel) w h).1
set_option maxRecDepth 20000 in
theorem wi_wsL_law0_r38 : ∀ w ∈ wsL_law0_r38, w ∈ lw_tbl := fun w h => (goodIn_p wsL_law0_r38 [1144, 1147, 1151, 1154] (by decide +kernel) (by decide +kernel) w h).1
set_option maxRecDepth 20000 in
theorem wi_wsL_law0_r39 : ∀ w ∈ wsL_law0_r39, w ∈ lw_tbl := fun w h => (goodIn_p wsL_law0_r39 [1158, 1163, 1167, 1171, 1177] (by decide +kernel) (by decide +kernel) w h).1
set_option maxRecDepth 20000 in
theorem wi_wsL_law0_r40 : ∀ w ∈ wsL_law0_r40, w ∈ lw_tbl := fun w h => (goodIn_p wsL_law0_r40 [1181, 1184, 1187, 1192, 1195, 1201] (by decide +kernel) (by decide +kernel) w h).1
set_option maxRecDepth 20000 in
theorem wi_wsL_law0_r41 : ∀ w ∈ wsL_law0_r41, w ∈ lw_tbl := fun w h => (goodIn_p wsL_law0_r41 [1204, 1207, 1210, 1215, 1218, 1221] (by decide +kernel) (by decide +kernel) w h).1
set_option maxRecDepth 20000 in
theorem wi_wsL_law0_r42 : ∀ w ∈ wsL_law0_r42, w ∈ lw_tbl := fun w h => (goodIn_p wsL_law0_r42 [1230, 1233, 1236, 1240, 1245, 1249] (by decide +kernel) (by decide +kernel) w h).1
set_option maxRecDepth 20000 in
theorem wi_wsL_law0_r43 : ∀ w ∈ wsL_law0_r43, w ∈ lw_tbl := fun w h => (goodIn_p wsL_law0_r43 [1253, 1258, 1263, 1266, 1269, 1272, 1275] (by decide +kernel) (by decide +kernel) w h).1
set_option maxRecDepth 20000 in
theorem wi_wsL_law0_r44 : ∀ w ∈ wsL_law0_r44, w ∈ lw_tbl := fun w h => (goodIn_p wsL_law0_r44 [1278, 1287, 1295, 1299, 1303, 1307] (by decide +kernel) (by decide +kernel) w h).1
set_option maxRecDepth 20000 in
theorem wi_wsL_law0_r45 : ∀ w ∈ wsL_law0_r45, w ∈ lw_tbl := fun w h => (goodIn_p wsL_law0_r45 [1311, 1315, 1319, 1323, 1334, 1338] (by decide +kernel) (by decide +kernel) w h).1
set_option maxRecDepth 20000 in
theorem wi_wsL_law0_r46 : ∀ w ∈ wsL_law0_r46, w ∈ lw_tbl := fun w h => (goodIn_p wsL_law0_r46 [1342, 1346, 1350, 1353, 1357, 1361] (by decide +kernel) (by decide +kernel) w h).1
set_option maxRecDepth 20000 in
theorem wi_wsL_law0_r47 : ∀ w ∈ wsL_law0_r47, w ∈ lw_tbl := fun w h => (goodIn_p wsL_law0_r47 [1365, 1372, 1376, 1380] (by decide +kernel) (by decide +kernel) w h).1
set_option maxRecDepth 20000 in
theorem wi_wsL_law0_r48 : ∀ w ∈ wsL_law0_r48, w ∈ lw_tbl := fun w h => (goodIn_p wsL_law0_r48 [2860, 2864] (by decide +kernel) (by decide +kernel) w h).1
set_option maxRecDepth 20000 in
theorem wi_wsL_law0_r49 : ∀ w ∈ wsL_law0_r49, w ∈ lw_tbl := fun w h => (goodIn_p wsL_law0_r49 [2868, 2871, 2875, 2878, 2882, 2887, 2890] (by decide +kernel) (by decide +kernel) w h).1
set_option maxRecDepth 20000 in
theorem wi_wsL_law0_r50 : ∀ w ∈ wsL_law0_r50, w ∈ lw_tbl := fun w h => (goodIn_p wsL_law0_r50 [2908, 2912, 2916, 2920, 2931] (by decide +kernel) (by decide +kernel) w h).1
set_option maxRecDepth 20000 in
theorem wi_wsL_law0_r51 : ∀ w ∈ wsL_law0_r51, w ∈ lw_tbl := fun w h => (goodIn_p wsL_law0_r51 [2935, 2939, 2943, 2947, 1385, 2951] (by decide +kernel) (by decide +kernel) w h).1
set_option maxRecDepth 20000 in
theorem wi_wsL_law0_r52 : ∀ w ∈ wsL_law0_r52, w ∈ lw_tbl := fun w h => (goodIn_p wsL_law0_r52 [1389, 2955, 1393, 2959, 1398, 1402] (by decide +kernel) (by decide +kernel) w h).1
set_option maxRecDepth 20000 in
theorem wi_wsL_law0_r53 : ∀ w ∈ wsL_law0_r53, w ∈ lw_tbl := fun w h => (goodIn_p wsL_law0_r53 [1406, 1411, 2963, 2967, 2971, 1415] (by decide +kernel) (by decide +kernel) w h).1
set_option maxRecDepth 20000 in
theorem wi_wsL_law0_r54 : ∀ w ∈ wsL_law0_r54, w ∈ lw_tbl := fun w h => (goodIn_p wsL_law0_r54 [1419, 1422, 1428, 2975, 2979] (by decide +kernel) (by decide +kernel) w h).1
set_option maxRecDepth 20000 in
theorem wi_wsL_law0_r55 : ∀ w ∈ wsL_law0_r55, w ∈ lw_tbl := fun w h => (goodIn_p wsL_law0_r55 [1432, 1436, 1441, 2983, 2987] (by decide +kernel) (by decide +kernel) w h).1
set_option maxRecDepth 20000 in
theorem wi_wsL_law0_r56 : ∀ w ∈ wsL_law0_r56, w ∈ lw_tbl := fun w h => (goodIn_p wsL_law0_r56 [1445, 2992, 1449, 1453, 1458] (by decide +kernel) (by decide +kernel) w h).1
set_option maxRecDepth 20000 in
theorem wi_wsL_law0_r57 : ∀ w ∈ wsL_law0_r57, w ∈ lw_tbl := fun w h => (goodIn_p wsL_law0_r57 [1463, 1467, 1474, 1478, 2996, 3000] (by decide +kernel) (by decide +kernel) w h).1
set_option maxRecDepth 20000 in
theorem wi_wsL_law0_r58 : ∀ w ∈ wsL_law0_r58, w ∈ lw_tbl := fun w h => (goodIn_p wsL_law0_r58 [3004, 3008, 3012, 1482, 1486] (by decide +kernel) (by decide +kernel) w h).1
set_option maxRecDepth 20000 in
theorem wi_wsL_law0_r59 : ∀ w ∈ wsL_law0_r59, w ∈ lw_tbl := fun w h => (goodIn_p wsL_law0_r59 [1490, 1494, 3016, 3020, 1498] (by decide +kernel) (by decide +kernel) w h).1
set_option maxRecDepth 20000 in
theorem wi_wsL_law0_r60 : ∀ w ∈ wsL_law0_r60, w ∈ lw_tbl := fun w h => (goodIn_p wsL_law0_r60 [1502, 1506, 1509, 1513, 3024, 1518] (by decide +kernel) (by decide +kernel) w h).1
set_option maxRecDepth 20000 in
theorem wi_wsL_law0_r61 : ∀ w ∈ wsL_law0_r61, w ∈ lw_tbl := fun w h => (goodIn_p wsL_law0_r61 [1522, 1526, 1530, 1536, 1540] (by decide +kernel) (by decide +kernel) w h).1
set_option maxRecDepth 20000 in
theorem wi_wsL_law0_r62 : ∀ w ∈ wsL_law0_r62, w ∈ lw_tbl := fun w h => (goodIn_p wsL_law0_r62 [3028, 3033, 3037, 3041, 3047] (by decide +kernel) (by decide +kernel) w h).1
set_option maxRecDepth 20000 in
theorem wi_wsL_law0_r63 : ∀ w ∈ wsL_law0_r63, w ∈ lw_tbl := fun w h => (goodIn_p wsL_law0_r63 [3051, 1545, 1549, 1553, 3055, 3059] (by decide +kernel) (by decide +kernel) w h).1
set_option maxRecDepth 20000 in
theorem wi_wsL_law0_r64 : ∀ w ∈ wsL_law0_r64, w ∈ lw_tbl := fun w h => (goodIn_p wsL_law0_r64 [3063, 1557, 1561, 1565, 1570, 3067] (by decide +kernel) (by decide +kernel) w h).1
set_option maxRecDepth 20000 in
theorem wi_wsL_law0_r65 : ∀ w ∈ wsL_law0_r65, w ∈ lw_tbl := fun w h => (goodIn_p wsL_law0_r65 [3071, 3074, 1575, 1578, 1585] (by decide +kernel) (by decide +kernel) w h).1
set_option maxRecDepth 20000 in
theorem wi_wsL_law0_r66 : ∀ w ∈ wsL_law0_r66, w ∈ lw_tbl := fun w h => (goodIn_p wsL_law0_r66 [1592, 1597, 1601, 1606] (by decide +kernel) (by decide +kernel) w h).1
set_option maxRecDepth 20000 in
theorem wi_wsL_law0_r67 : ∀ w ∈ wsL_law0_r67, w ∈ lw_tbl := fun w h => (goodIn_p wsL_law0_r67 [1611, 1615, 1619, 1622, 1627] (by decide +kernel) (by decide +kernel) w h).1
set_option maxRecDepth 20000 in
theorem wi_wsL_law0_r68 : ∀ w ∈ wsL_law0_r68, w ∈ lw_tbl := fun w h => (goodIn_p wsL_law0_r68 [1631, 1636, 1639, 1643, 1648] (by decide +kernel) (by decide +kernel) w h).1
set_option maxRecDepth 20000 in
theorem wi_wsL_law0_r69 : ∀ w ∈ wsL_law0_r69, w ∈ lw_tbl := fun w h => (goodIn_p wsL_law0_r69 [1652, 1657, 1661, 1665, 1669, 1672] (by decide +kernel) (by decide +kernel) w h).1
set_option maxRecDepth 20000 in
theorem wi_wsL_law0_r70 : ∀ w ∈ wsL_law0_r70, w ∈ lw_tbl := fun w h => (goodIn_p wsL_law0_r70 [1677, 1681, 1688, 1692, 1696] (by decide +kernel) (by decide +kernel) w h).1
set_option maxRecDepth 20000 in
theorem wi_wsL_law0_r71 : ∀ w ∈ wsL_law0_r71, w ∈ lw_tbl := fun w h => (goodIn_p wsL_law0_r71 [1701, 1708, 1713, 3078, 3081] (by decide +kernel) (by decide +kernel) w h).1
set_option maxRecDepth 20000 in
theorem wi_wsL_law0_r72 : ∀ w ∈ wsL_law0_r72, w ∈ lw_tbl := fun w h => (goodIn_p wsL_law0_r72 [3085, 3089, 3092, 3095, 3100, 3103, 3106] (by decide +kernel) (by decide +kernel) w h).1
set_option maxRecDepth 20000 in
theorem wi_wsL_law0_r73 : ∀ w ∈ wsL_law0_r73, w ∈ lw_tbl := fun w h => (goodIn_p wsL_law0_r73 [3109, 3114, 3117, 3121, 3124, 3129] (by decide +kernel) (by decide +kernel) w h).1
set_option maxRecDepth 20000 in
theorem wi_wsL_law0_r74 : ∀ w ∈ wsL_law0_r74, w ∈ lw_tbl := fun w h => (goodIn_p wsL_law0_r74 [3133, 1717, 1721, 1725, 3137, 1730] (by decide +kernel) (by decide +kernel) w h).1
set_option maxRecDepth 20000 in
theorem wi_wsL_law0_r75 : ∀ w ∈ wsL_law0_r75, w ∈ lw_tbl := fun w h => (goodIn_p wsL_law0_r75 [1734, 1738, 1741, 3141, 1747, 3145] (by decide +kernel) (by decide +kernel) w h).1
set_option maxRecDepth 20000 in
theorem wi_wsL_law0_r76 : ∀ w ∈ wsL_law0_r76, w ∈ lw_tbl := fun w h => (goodIn_p wsL_law0_r76 [1751, 1755, 3149, 3153] (by decide +kernel) (by decide +kernel) w h).1
set_option maxRecDepth 20000 in
theorem wi_wsL_law0_r77 : ∀ w ∈ wsL_law0_r77, w ∈ lw_tbl := fun w h => (goodIn_p wsL_law0_r77 [1762, 1767, 1771] (by decide +kernel) (by decide +kernel) w h).1
set_option maxRecDepth 20000 in
theorem wi_wsL_law0_r78 : ∀ w ∈ wsL_law0_r78, w ∈ lw_tbl := fun w h => (goodIn_p wsL_law0_r78 [1776, 1784, 1790, 1797] (by decide +kernel) (by decide +kernel) w h).1
set_option maxRecDepth 20000 in
theorem wi_wsL_law0_r79 : ∀ w ∈ wsL_law0_r79, w ∈ lw_tbl := fun w h => (goodIn_p wsL_law0_r79 [1803, 1809, 1813, 1817, 1822] (by decide +kernel) (by decide +kernel) w h).1
set_option maxRecDepth 20000 in
theorem wi_wsL_law0_r80 : ∀ w ∈ wsL_law0_r80, w ∈ lw_tbl := fun w h => (goodIn_p wsL_law0_r80 [1826, 1830, 1834, 3160, 3164] (by decide +kernel) (by decide +kernel) w h).1
set_option maxRecDepth 20000 in
theorem wi_wsL_law0_r81 : ∀ w ∈ wsL_law0_r81, w ∈ lw_tbl := fun w h => (goodIn_p wsL_law0_r81 [3168, 3176, 3180, 3184] (by decide +kernel) (by decide +kernel) w h).1
set_option maxRecDepth 20000 in
theorem wi_wsL_law0_r82 : ∀ w ∈ wsL_law0_r82, w ∈ lw_tbl := fun w h => (goodIn_p wsL_law0_r82 [3188, 1840, 3192, 1844, 3196] (by decide +kernel) (by decide +kernel) w h).1
set_option maxRecDepth 20000 in
theorem wi_wsL_law0_r83 : ∀ w ∈ wsL_law0_r83, w ∈ lw_tbl := fun w h => (goodIn_p wsL_law0_r83 [1848, 1853, 3200, 1857, 1861] (by decide +kernel) (by decide +kernel) w h).1
set_option maxRecDepth 20000 in
theorem wi_wsL_law0_r84 : ∀ w ∈ wsL_law0_r84, w ∈ lw_tbl := fun w h => (goodIn_p wsL_law0_r84 [1868, 1872, 3204, 3208, 1876, 1884] (by decide +kernel) (by decide +kernel) w h).1
set_option maxRecDepth 20000 in
theorem wi_wsL_law0_r85 : ∀ w ∈ wsL_law0_r85, w ∈ lw_tbl := fun w h => (goodIn_p wsL_law0_r85 [1888, 3212, 3216, 1892, 3220] (by decide +kernel) (by decide +kernel) w h).1
set_option maxRecDepth 20000 in
theorem wi_wsL_law0_r86 : ∀ w ∈ wsL_law0_r86, w ∈ lw_tbl := fun w h => (goodIn_p wsL_law0_r86 [1896, 1900, 1904, 1910, 1914] (by decide +kernel) (by decide +kernel) w h).1
set_option maxRecDepth 20000 in
theorem wi_wsL_law0_r87 : ∀ w ∈ wsL_law0_r87, w ∈ lw_tbl := fun w h => (goodIn_p wsL_law0_r87 [1920, 1924, 1928, 3224] (by decide +kernel) (by decide +kernel) w h).1
set_option maxRecDepth 20000 in
theorem wi_wsL_law0_r88 : ∀ w ∈ wsL_law0_r88, w ∈ lw_tbl := fun w h => (goodIn_p wsL_law0_r88 [3228, 1932, 3232, 1936, 3236, 1940] (by decide +kernel) (by decide +kernel) w h).1
set_option maxRecDepth 20000 in
theorem wi_wsL_law0_r89 : ∀ w ∈ wsL_law0_r89, w ∈ lw_tbl := fun w h => (goodIn_p wsL_law0_r89 [1945, 3240, 1949, 1953] (by decide +kernel) (by decide +kernel) w h).1
set_option maxRecDepth 20000 in
theorem wi_wsL_law0_r90 : ∀ w ∈ wsL_law0_r90, w ∈ lw_tbl := fun w h => (goodIn_p wsL_law0_r90 [1958, 1961, 1965, 1971, 1974] (by decide +kernel) (by decide +kernel) w h).1
set_option maxRecDepth 20000 in
theorem wi_wsL_law0_r91 : ∀ w ∈ wsL_law0_r91, w ∈ lw_tbl := fun w h => (goodIn_p wsL_law0_r91 [1978, 1982, 3244, 3248, 3252, 3255] (by decide +kernel) (by decide +kernel) w h).1
set_option maxRecDepth 20000 in
theorem wi_wsL_law0_r92 : ∀ w ∈ wsL_law0_r92, w ∈ lw_tbl := fun w h => (goodIn_p wsL_law0_r92 [3260, 3264, 1986, 1990, 3268, 1994] (by decide +kernel) (by decide +kernel) w h).1
set_option maxRecDepth 20000 in
theorem wi_wsL_law0_r93 : ∀ w ∈ wsL_law0_r93, w ∈ lw_tbl := fun w h => (goodIn_p wsL_law0_r93 [2000, 3272, 2004, 2008] (by decide +kernel) (by decide +kernel) w h).1
set_option maxRecDepth 20000 in
theorem wi_wsL_law0_r94 : ∀ w ∈ wsL_law0_r94, w ∈ lw_tbl := fun w h => (goodIn_p wsL_law0_r94 [2012, 3278, 3282, 3286, 2018] (by decide +kernel) (by decide +kernel) w h).1
set_option maxRecDepth 20000 in
theorem wi_wsL_law0_r95 : ∀ w ∈ wsL_law0_r95, w ∈ lw_tbl := fun w h => (goodIn_p wsL_law0_r95 [2022, 3290, 2028, 2032, 3294] (by decide +kernel) (by decide +kernel) w h).1
set_option maxRecDepth 20000 in
theorem wi_wsL_law0_r96 : ∀ w ∈ wsL_law0_r96, w ∈ lw_tbl := fun w h => (goodIn_p wsL_law0_r96 [2036, 2040, 3298, 2044, 2048] (by decide +kernel) (by decide +kernel) w h).1
set_option maxRecDepth 20000 in
theorem wi_wsL_law0_r97 : ∀ w ∈ wsL_law0_r97, w ∈ lw_tbl := fun w h => (goodIn_p wsL_law0_r97 [3302, 2052, 2056, 2061, 3306, 3310] (by decide +kernel) (by decide +kernel) w h).1
set_option maxRecDepth 20000 in
theorem wi_wsL_law0_r98 : ∀ w ∈ wsL_law0_r98, w ∈ lw_tbl := fun w h => (goodIn_p wsL_law0_r98 [2065, 3314, 2069, 2073, 3318] (by decide +kernel) (by decide +kernel) w h).1
set_option maxRecDepth 20000 in
theorem wi_wsL_law0_r99 : ∀ w ∈ wsL_law0_r99, w ∈ lw_tbl := fun w h => (goodIn_p wsL_law0_r99 [2078, 3322] (by decide +kernel) (by decide +kernel) w h).1
set_option maxRecDepth 20000 in
theorem wi_wsX110 : ∀ w ∈ wsX110, w ∈ lw_tbl := fun w h => (goodIn_p wsX110 [] (by decide +kernel) (by decide +kernel) w h).1
set_option maxRecDepth 20000 in
theorem wi_wsX140 : ∀ w ∈ wsX140, w ∈ lw_tbl := fun w h => (goodIn_p wsX140 [] (by decide +kernel) (by decide +kernel) w h).1
set_option maxRecDepth 20000 in
theorem wi_wsX50 : ∀ w ∈ wsX50, w ∈ lw_tbl := fun w h => (goodIn_p wsX50 [] (by decide +kernel) (by decide +kernel) w h).1
set_option maxRecDepth 20000 in
theorem wi_wsX90 : ∀ w ∈ wsX90, w ∈ lw_tbl := fun w h => (goodIn_p wsX90 [] (by decide +kernel) (by decide +kernel) w h).1
set_option maxRecDepth 20000 in
theorem wi_wsX30 : ∀ w ∈ wsX30, w ∈ lw_tbl := fun w h => (goodIn_p wsX30 [] (by decide +kernel) (by decide +kernel) w h).1
set_option maxRecDepth 20000 in
theorem wi_wsX60 : ∀ w ∈ wsX60, w ∈ lw_tbl := fun w h => (goodIn_p wsX60 [] (by decide +kernel) (by decide +kernel) w h).1
set_option maxRecDepth 20000 in
theorem wi_wsX70 : ∀ w ∈ wsX70, w ∈ lw_tbl := fun w h => (goodIn_p wsX70 [] (by decide +kernel) (by decide +kernel) w h).1
set_option maxRecDepth 20000 in
theorem wi_wsX00 : ∀ w ∈ wsX00, w ∈ lw_tbl := fun w h => (goodIn_p wsX00 [] (by decide +kernel) (by decide +kernel) w h).1
set_option maxRecDepth 20000 in
theorem wi_wsX40 : ∀ w ∈ wsX40, w ∈ lw_tbl := fun w h => (goodIn_p wsX40 [] (by decide +kernel) (by decide +kernel) w h).1
set_option maxRecDepth 20000 in
theorem wi_wsX20 : ∀ w ∈ wsX20, w ∈ lw_tbl := fun w h => (goodIn_p wsX20 [] (by decide +kernel) (by decide +kernel) w h).1
set_option maxRecDepth 20000 in
theorem wi_wsX100 : ∀ w ∈ wsX100, w ∈ lw_tbl := fun w h => (goodIn_p wsX100 [] (by decide +kernel) (by decide +kernel) w h).1
set_option maxRecDepth 20000 in
theorem wi_wsX80 : ∀ w ∈ wsX80, w ∈ lw_tbl := fun w h => (goodIn_p wsX80 [] (by decide +kernel) (by decide +kernel) w h).1
set_option maxRecDepth 20000 in
theorem wi_wsX10 : ∀ w ∈ wsX10, w ∈ lw_tbl := fun w h => (goodIn_p wsX10 [] (by decide +kernel) (by decide +kernel) w h).1
set_option maxRecDepth 20000 in
theorem wi_wsX120 : ∀ w ∈ wsX120, w ∈ lw_tbl := fun w h => (goodIn_p wsX120 [] (by decide +kernel) (by decide +kernel) w h).1
set_option maxRecDepth 20000 in
theorem wi_wsX130 : ∀ w ∈ wsX130, w ∈ lw_tbl := fun w h => (goodIn_p wsX130 [] (by decide +kernel) (by decide +kernel) w h).1
theorem wi_f {l : List Cond} (h : ∀ w ∈ l, w ∈ tables_1) : ∀ w ∈ l.filter goodWord, w ∈ lw_tbl := fun w hw => List.mem_append_right _ (h w (List.mem_filter.mp hw).1)
theorem wi_p {l : List Cond} (ps : List Nat) (h : l = ps.filterMap (fun i => tables_1[i]?)) : ∀ w ∈ l, w ∈ tables_1 := by
  intro w hw
  rw [h] at hw
  obtain ⟨i, -, hi⟩ := List.mem_filterMap.mp hw
  exact List.mem_of_getElem? hi
set_option maxRecDepth 20000 in
theorem wi_x0 : ∀ w ∈ rf_xw0, w ∈ lw_tbl := wi_f (wi_p [15, 16, 17, 23, 1927, 1932, 1933, 1934, 1935, 1936, 1937, 1938, 1939, 1940, 1941, 1942, 1943, 1944, 1945, 1946, 1947, 1948, 1949, 1950, 1951, 1952, 1953, 1954, 1955, 1956] (by decide +kernel))
set_option maxRecDepth 20000 in
theorem wi_x1 : ∀ w ∈ rf_xw1, w ∈ lw_tbl := wi_f (wi_p [1957, 1958, 1959, 1960, 1961, 1962, 1963, 1964, 1965, 1966, 1967, 1968, 1969, 1970, 1971, 1972, 1973, 1974, 1975, 1976, 1977, 1978, 1979, 1980, 1981, 1982, 1983, 1984, 1985, 1986] (by decide +kernel))
set_option maxRecDepth 20000 in
theorem wi_x2 : ∀ w ∈ rf_xw2, w ∈ lw_tbl := wi_f (wi_p [1987, 1988, 1989, 1990, 1991, 1992, 1993, 1994, 2042, 2043, 2044, 2045, 2046, 2047, 2051, 2052, 2053, 2054, 2055, 2056, 2057, 2058, 2059, 2066, 2067, 3168, 3184, 3185] (by decide +kernel))
set_option maxRecDepth 20000 in
theorem wi_all : ∀ l ∈ rf_ch, ∀ w ∈ l, w ∈ lw_tbl := List.forall_mem_cons.mpr ⟨wi_wsL_law0_r1, List.forall_mem_cons.mpr ⟨wi_wsL_law0_r2, List.forall_mem_cons.mpr ⟨wi_wsL_law0_r3, List.forall_mem_cons.mpr ⟨wi_wsL_law0_r4, List.forall_mem_cons.mpr ⟨wi_wsL_law0_r5, List.forall_mem_cons.mpr ⟨wi_wsL_law0_r6, List.forall_mem_cons.mpr ⟨wi_wsL_law0_r7, List.forall_mem_cons.mpr ⟨wi_wsL_law0_r8, List.forall_mem_cons.mpr ⟨wi_wsL_law0_r9, List.forall_mem_cons.mpr ⟨wi_wsL_law0_r10, List.forall_mem_cons.mpr ⟨wi_wsL_law0_r11, List.forall_mem_cons.mpr ⟨wi_wsL_law0_r12, List.forall_mem_cons.mpr ⟨wi_wsL_law0_r13, List.forall_mem_cons.mpr ⟨wi_wsL_law0_r14, List.forall_mem_cons.mpr ⟨wi_wsL_law0_r15, List.forall_mem_cons.mpr ⟨wi_wsL_law0_r16, List.forall_mem_cons.mpr ⟨wi_wsL_law0_r17, List.forall_mem_cons.mpr ⟨wi_wsL_law0_r18, List.forall_mem_cons.mpr ⟨wi_wsL_law0_r19, List.forall_mem_cons.mpr ⟨wi_wsL_law0_r20, List.forall_mem_cons.mpr ⟨wi_wsL_law0_r21, List.forall_mem_cons.mpr ⟨wi_wsL_law0_r22, List.forall_mem_cons.mpr ⟨wi_wsL_law0_r23, List.forall_mem_cons.mpr ⟨wi_wsL_law0_r24, List.forall_mem_cons.mpr ⟨wi_wsL_law0_r25, List.forall_mem_cons.mpr ⟨wi_wsL_law0_r26, List.forall_mem_cons.mpr ⟨wi_wsL_law0_r27, List.forall_mem_cons.mpr ⟨wi_wsL_law0_r28, List.forall_mem_cons.mpr ⟨wi_wsL_law0_r29, List.forall_mem_cons.mpr ⟨wi_wsL_law0_r30, List.forall_mem_cons.mpr ⟨wi_wsL_law0_r31, List.forall_mem_cons.mpr ⟨wi_wsL_law0_r32, List.forall_mem_cons.mpr ⟨wi_wsL_law0_r33, List.forall_mem_cons.mpr ⟨wi_wsL_law0_r34, List.forall_mem_cons.mpr ⟨wi_wsL_law0_r35, List.forall_mem_cons.mpr ⟨wi_wsL_law0_r36, List.forall_mem_cons.mpr ⟨wi_wsL_law0_r37, List.forall_mem_cons.mpr ⟨wi_wsL_law0_r38, List.forall_mem_cons.mpr ⟨wi_wsL_law0_r39, List.forall_mem_cons.mpr ⟨wi_wsL_law0_r40, List.forall_mem_cons.mpr ⟨wi_wsL_law0_r41, List.forall_mem_cons.mpr ⟨wi_wsL_law0_r42, List.forall_mem_cons.mpr ⟨wi_wsL_law0_r43, List.forall_mem_cons.mpr ⟨wi_wsL_law0_r44, List.forall_mem_cons.mpr ⟨wi_wsL_law0_r45, List.forall_mem_cons.mpr ⟨wi_wsL_law0_r46, List.forall_mem_cons.mpr ⟨wi_wsL_law0_r47, List.forall_mem_cons.mpr ⟨wi_wsL_law0_r48, List.forall_mem_cons.mpr ⟨wi_wsL_law0_r49, List.forall_mem_cons.mpr ⟨wi_wsL_law0_r50, List.forall_mem_cons.mpr ⟨wi_wsL_law0_r51, List.forall_mem_cons.mpr ⟨wi_wsL_law0_r52, List.forall_mem_cons.mpr ⟨wi_wsL_law0_r53, List.forall_mem_cons.mpr ⟨wi_wsL_law0_r54, List.forall_mem_cons.mpr ⟨wi_wsL_law0_r55, List.forall_mem_cons.mpr ⟨wi_wsL_law0_r56, List.forall_mem_cons.mpr ⟨wi_wsL_law0_r57, List.forall_mem_cons.mpr ⟨wi_wsL_law0_r58, List.forall_mem_cons.mpr ⟨wi_wsL_law0_r59, List.forall_mem_cons.mpr ⟨wi_wsL_law0_r60, List.forall_mem_cons.mpr ⟨wi_wsL_law0_r61, List.forall_mem_cons.mpr ⟨wi_wsL_law0_r62, List.forall_mem_cons.mpr ⟨wi_wsL_law0_r63, List.forall_mem_cons.mpr ⟨wi_wsL_law0_r64, List.forall_mem_cons.mpr ⟨wi_wsL_law0_r65, List.forall_mem_cons.mpr ⟨wi_wsL_law0_r66, List.forall_mem_cons.mpr ⟨wi_wsL_law0_r67, List.forall_mem_cons.mpr ⟨wi_wsL_law0_r68, List.forall_mem_cons.mpr ⟨wi_wsL_law0_r69, List.forall_mem_cons.mpr ⟨wi_wsL_law0_r70, List.forall_mem_cons.mpr ⟨wi_wsL_law0_r71, List.forall_mem_cons.mpr ⟨wi_wsL_law0_r72, List.forall_mem_cons.mpr ⟨wi_wsL_law0_r73, List.forall_mem_cons.mpr ⟨wi_wsL_law0_r74, List.forall_mem_cons.mpr ⟨wi_wsL_law0_r75, List.forall_mem_cons.mpr ⟨wi_wsL_law0_r76, List.forall_mem_cons.mpr ⟨wi_wsL_law0_r77, List.forall_mem_cons.mpr ⟨wi_wsL_law0_r78, List.forall_mem_cons.mpr ⟨wi_wsL_law0_r79, List.forall_mem_cons.mpr ⟨wi_wsL_law0_r80, List.forall_mem_cons.mpr ⟨wi_wsL_law0_r81, List.forall_mem_cons.mpr ⟨wi_wsL_law0_r82, List.forall_mem_cons.mpr ⟨wi_wsL_law0_r83, List.forall_mem_cons.mpr ⟨wi_wsL_law0_r84, List.forall_mem_cons.mpr ⟨wi_wsL_law0_r85, List.forall_mem_cons.mpr ⟨wi_wsL_law0_r86, List.forall_mem_cons.mpr ⟨wi_wsL_law0_r87, List.forall_mem_cons.mpr ⟨wi_wsL_law0_r88, List.forall_mem_cons.mpr ⟨wi_wsL_law0_r89, List.forall_mem_cons.mpr ⟨wi_wsL_law0_r90, List.forall_mem_cons.mpr ⟨wi_wsL_law0_r91, List.forall_mem_cons.mpr ⟨wi_wsL_law0_r92, List.forall_mem_cons.mpr ⟨wi_wsL_law0_r93, List.forall_mem_cons.mpr ⟨wi_wsL_law0_r94, List.forall_mem_cons.mpr ⟨wi_wsL_law0_r95, List.forall_mem_cons.mpr ⟨wi_wsL_law0_r96, List.forall_mem_cons.mpr ⟨wi_wsL_law0_r97, List.forall_mem_cons.mpr ⟨wi_wsL_law0_r98, List.forall_mem_cons.mpr ⟨wi_wsL_law0_r99, List.forall_mem_cons.mpr ⟨wi_wsX110, List.forall_mem_cons.mpr ⟨wi_wsX140, List.forall_mem_cons.mpr ⟨wi_wsX50, List.forall_mem_cons.mpr ⟨wi_wsX90, List.forall_mem_cons.mpr ⟨wi_wsX30, List.forall_mem_cons.mpr ⟨wi_wsX60, List.forall_mem_cons.mpr ⟨wi_wsX70, List.forall_mem_cons.mpr ⟨wi_wsX00, List.forall_mem_cons.mpr ⟨wi_wsX40, List.forall_mem_cons.mpr ⟨wi_wsX20, List.forall_mem_cons.mpr ⟨wi_wsX100, List.forall_mem_cons.mpr ⟨wi_wsX80, List.forall_mem_cons.mpr ⟨wi_wsX10, List.forall_mem_cons.mpr ⟨wi_wsX120, List.forall_mem_cons.mpr ⟨wi_wsX130, List.forall_mem_cons.mpr ⟨wi_x0, List.forall_mem_cons.mpr ⟨wi_x1, List.forall_mem_cons.mpr ⟨wi_x2, fun _ h => absurd h List.not_mem_nil⟩⟩⟩⟩⟩⟩⟩⟩⟩⟩⟩⟩⟩⟩⟩⟩⟩⟩⟩⟩⟩⟩⟩⟩⟩⟩⟩⟩⟩⟩⟩⟩⟩⟩⟩⟩⟩⟩⟩⟩⟩⟩⟩⟩⟩⟩⟩⟩⟩⟩⟩⟩⟩⟩⟩⟩⟩⟩⟩⟩⟩⟩⟩⟩⟩⟩⟩⟩⟩⟩⟩⟩⟩⟩⟩⟩⟩⟩⟩⟩⟩⟩⟩⟩⟩⟩⟩⟩⟩⟩⟩⟩⟩⟩⟩⟩⟩⟩⟩⟩⟩⟩⟩⟩⟩⟩⟩⟩⟩⟩⟩⟩⟩⟩⟩⟩⟩
theorem rf_WS_in : ∀ w ∈ rf_WS, w ∈ lw_tbl := by
  intro w hw
  obtain ⟨l, hl, hw⟩ := List.mem_flatten.mp hw
  exact wi_all l hl w hw
