/-! the words that the methods need are words of the law's tables, by their places -/
def ixOk (L : List Cond) : List Cond → List Nat → Bool
  | [], _ => true
  | w :: ws, i :: is => decide (L[i]? = some w) && ixOk L ws is
  | _ :: _, [] => false
theorem ixOk_mem {L : List Cond} : ∀ {ws : List Cond} {is : List Nat}, ixOk L ws is = true → ∀ w ∈ ws, w ∈ L
  | [], _, _ => fun w h => absurd h List.not_mem_nil
  | x :: ws, [], h => by cases h
  | x :: ws, i :: is, h => by
    have h' : (decide (L[i]? = some x) && ixOk L ws is) = true := h
    rw [Bool.and_eq_true] at h'
    intro w hw
    rcases List.mem_cons.mp hw with rfl | hw
    · exact List.mem_of_getElem? (of_decide_eq_true h'.1)
    · exact ixOk_mem h'.2 w hw
theorem lwt_1 : ∀ w ∈ wsL_law_r1, w ∈ lw_tbl := ixOk_mem (is := [89, 90, 73, 939, 940, 83, 91, 92, 93, 94, 95, 96, 97, 98, 74, 388, 389, 390, 391, 179, 180, 76, 392, 198]) (by decide +kernel)
theorem lwt_2 : ∀ w ∈ wsL_law_r2, w ∈ lw_tbl := ixOk_mem (is := [199, 77, 393, 262, 263, 78, 394, 284, 285, 79, 395, 311, 312, 80, 396, 342, 343, 81, 397, 358, 359, 82, 398, 99]) (by decide +kernel)
theorem lwt_3 : ∀ w ∈ wsL_law_r3, w ∈ lw_tbl := ixOk_mem (is := [100, 101, 102, 178, 114, 118, 122, 127, 131, 133, 138, 141, 143, 103, 145, 148, 107, 109, 108, 75, 181, 182, 183, 184]) (by decide +kernel)
theorem lwt_4 : ∀ w ∈ wsL_law_r4, w ∈ lw_tbl := ixOk_mem (is := [185, 188, 187, 200, 201, 202, 203, 210, 261, 214, 217, 218, 222, 224, 225, 228, 230, 204, 265, 266, 267, 268, 270, 287]) (by decide +kernel)
theorem lwt_5 : ∀ w ∈ wsL_law_r5, w ∈ lw_tbl := ixOk_mem (is := [288, 289, 292, 294, 296, 298, 313, 314, 315, 316, 319, 321, 317, 318, 345, 346, 347, 357, 348, 361, 362, 363, 364, 371]) (by decide +kernel)
theorem lwt_6 : ∀ w ∈ wsL_law_r6, w ∈ lw_tbl := ixOk_mem (is := [373, 941, 942, 943, 944, 948, 949, 951, 953, 955, 958, 964, 965, 967, 968, 971, 973, 977, 945, 947, 422, 423, 424, 425]) (by decide +kernel)
theorem lwt_7 : ∀ w ∈ wsL_law_r7, w ∈ lw_tbl := ixOk_mem (is := [426, 427, 428, 429, 110, 136, 430, 432, 0, 433, 113, 116, 120, 126, 130, 132, 434, 435, 436, 437, 438, 439, 440, 441]) (by decide +kernel)
theorem lwt_8 : ∀ w ∈ wsL_law_r8, w ∈ lw_tbl := ixOk_mem (is := [442, 443, 444, 445, 447, 1, 448, 449, 450, 451, 452, 189, 190, 453, 1039, 1040, 1041, 1042, 1046, 1047, 84, 1048, 1043, 1044]) (by decide +kernel)
theorem lwt_9 : ∀ w ∈ wsL_law_r9, w ∈ lw_tbl := ixOk_mem (is := [1045, 1049, 1051, 18, 1052, 1053, 1055, 19, 1056, 1057, 1059, 20, 1060, 954, 1061, 1063, 21, 1064, 952, 454, 455, 456, 457, 458]) (by decide +kernel)
theorem lwt_10 : ∀ w ∈ wsL_law_r10, w ∈ lw_tbl := ixOk_mem (is := [460, 2, 461, 137, 140, 1065, 1066, 1067, 1068, 1069, 1070, 1071, 462, 463, 464, 465, 1072, 1073, 1074, 1075, 466, 467, 468, 469]) (by decide +kernel)
theorem lwt_11 : ∀ w ∈ wsL_law_r11, w ∈ lw_tbl := ixOk_mem (is := [1076, 1077, 1078, 1079, 470, 471, 472, 473, 474, 475, 476, 477, 478, 479, 480, 481, 1080, 1081, 1082, 1083, 1084, 1086, 22, 1087]) (by decide +kernel)
theorem lwt_12 : ∀ w ∈ wsL_law_r12, w ∈ lw_tbl := ixOk_mem (is := [1088, 1090, 23, 1091, 1092, 1094, 24, 1095, 1096, 1098, 25, 1099, 482, 483, 484, 485, 486, 488, 3, 489, 490, 492, 150, 1100]) (by decide +kernel)
theorem lwt_13 : ∀ w ∈ wsL_law_r13, w ∈ lw_tbl := ixOk_mem (is := [1101, 1102, 1103, 1104, 1106, 494, 495, 496, 497, 1108, 1109, 1110, 1111, 498, 499, 500, 501, 502, 504, 4, 505, 147, 506, 507]) (by decide +kernel)
theorem lwt_14 : ∀ w ∈ wsL_law_r14, w ∈ lw_tbl := ixOk_mem (is := [508, 509, 510, 512, 5, 513, 229, 514, 515, 516, 517, 139, 205, 207, 220, 111, 134, 146, 518, 519, 520, 521, 124, 129]) (by decide +kernel)
theorem lwt_15 : ∀ w ∈ wsL_law_r15, w ∈ lw_tbl := ixOk_mem (is := [149, 522, 523, 524, 525, 227, 526, 527, 528, 529, 530, 531, 532, 533, 534, 535, 536, 537, 117, 121, 538, 539, 540, 541]) (by decide +kernel)
theorem lwt_16 : ∀ w ∈ wsL_law_r16, w ∈ lw_tbl := ixOk_mem (is := [542, 543, 544, 545, 546, 547, 548, 549, 1112, 1113, 1114, 1115, 1116, 1118, 26, 1119, 1120, 1122, 27, 1123, 1124, 1126, 28, 1127]) (by decide +kernel)
theorem lwt_17 : ∀ w ∈ wsL_law_r17, w ∈ lw_tbl := ixOk_mem (is := [1128, 1130, 29, 1131, 956, 957, 1132, 1134, 30, 1135, 1136, 1138, 31, 1139, 1140, 1142, 32, 1143, 1144, 1146, 33, 1147, 1148, 1150]) (by decide +kernel)
theorem lwt_18 : ∀ w ∈ wsL_law_r18, w ∈ lw_tbl := ixOk_mem (is := [34, 1151, 1152, 1154, 35, 1155, 1156, 1158, 36, 1159, 1160, 1162, 37, 1163, 1164, 1166, 38, 1167, 1168, 1170, 39, 1171, 1172, 1174]) (by decide +kernel)
theorem lwt_19 : ∀ w ∈ wsL_law_r19, w ∈ lw_tbl := ixOk_mem (is := [40, 1175, 1176, 1178, 41, 1179, 1180, 1182, 42, 1183, 1184, 1185, 1186, 1187, 1189, 43, 1190, 1191, 1193, 44, 1194, 1195, 1197, 45]) (by decide +kernel)
theorem lwt_20 : ∀ w ∈ wsL_law_r20, w ∈ lw_tbl := ixOk_mem (is := [1198, 550, 551, 552, 553, 1199, 1200, 1201, 1202, 554, 555, 556, 557, 558, 560, 6, 561, 209, 1203, 1204, 1205, 1206, 562, 563]) (by decide +kernel)
theorem lwt_21 : ∀ w ∈ wsL_law_r21, w ∈ lw_tbl := ixOk_mem (is := [564, 565, 1207, 1208, 1209, 1210, 566, 567, 568, 569, 231, 1211, 1212, 1213, 1214, 570, 571, 572, 573, 1215, 1216, 1217, 1218, 574]) (by decide +kernel)
theorem lwt_22 : ∀ w ∈ wsL_law_r22, w ∈ lw_tbl := ixOk_mem (is := [575, 576, 577, 213, 216, 219, 1219, 1220, 1221, 1222, 1223, 1225, 46, 1226, 578, 579, 580, 581, 221, 1227, 1228, 1229, 1230, 582]) (by decide +kernel)
theorem lwt_23 : ∀ w ∈ wsL_law_r23, w ∈ lw_tbl := ixOk_mem (is := [583, 584, 585, 226, 223, 586, 587, 1231, 1232, 1233, 1234, 588, 589, 590, 591, 1235, 1236, 1237, 1238, 1239, 1241, 47, 1242, 592]) (by decide +kernel)
theorem lwt_24 : ∀ w ∈ wsL_law_r24, w ∈ lw_tbl := ixOk_mem (is := [593, 594, 595, 1243, 1244, 1245, 1246, 596, 597, 598, 599, 600, 601, 602, 603, 604, 605, 606, 607, 1247, 1248, 1249, 1250, 1251]) (by decide +kernel)
theorem lwt_25 : ∀ w ∈ wsL_law_r25, w ∈ lw_tbl := ixOk_mem (is := [1253, 48, 1254, 608, 609, 610, 611, 612, 1255, 1256, 1257, 1258, 613, 614, 615, 616, 617, 618, 619, 620, 1259, 1260, 1261, 1262]) (by decide +kernel)
theorem lwt_26 : ∀ w ∈ wsL_law_r26, w ∈ lw_tbl := ixOk_mem (is := [1263, 1265, 49, 1266, 621, 622, 623, 624, 625, 626, 627, 628, 629, 630, 631, 632, 1267, 1268, 1269, 1270, 633, 634, 635, 636]) (by decide +kernel)
theorem lwt_27 : ∀ w ∈ wsL_law_r27, w ∈ lw_tbl := ixOk_mem (is := [637, 639, 7, 640, 641, 642, 643, 644, 645, 646, 647, 648, 649, 1271, 1272, 1273, 1274, 1275, 1277, 50, 1278, 650, 651, 652]) (by decide +kernel)
theorem lwt_28 : ∀ w ∈ wsL_law_r28, w ∈ lw_tbl := ixOk_mem (is := [653, 654, 655, 656, 657, 658, 1279, 1280, 1281, 1282, 959, 1283, 1285, 51, 1286, 1287, 1289, 52, 1290, 659, 660, 661, 662, 135]) (by decide +kernel)
theorem lwt_29 : ∀ w ∈ wsL_law_r29, w ∈ lw_tbl := ixOk_mem (is := [1291, 1292, 1293, 1294, 663, 664, 665, 666, 667, 669, 8, 670, 1295, 1296, 1297, 1298, 1299, 1301, 53, 1302, 671, 672, 673, 674]) (by decide +kernel)
theorem lwt_30 : ∀ w ∈ wsL_law_r30, w ∈ lw_tbl := ixOk_mem (is := [675, 677, 9, 678, 1303, 1304, 1305, 1306, 679, 680, 681, 682, 683, 685, 10, 686, 142, 144, 687, 688, 689, 690, 1307, 1308]) (by decide +kernel)
theorem lwt_31 : ∀ w ∈ wsL_law_r31, w ∈ lw_tbl := ixOk_mem (is := [1309, 1310, 1311, 1313, 54, 1314, 691, 692, 693, 694, 1315, 1316, 1317, 1318, 695, 696, 697, 698, 699, 701, 11, 702, 703, 704]) (by decide +kernel)
theorem lwt_32 : ∀ w ∈ wsL_law_r32, w ∈ lw_tbl := ixOk_mem (is := [705, 706, 707, 1319, 1320, 1321, 1322, 1323, 1325, 55, 1326, 708, 709, 710, 711, 712, 714, 12, 715, 269, 271, 716, 718, 13]) (by decide +kernel)
theorem lwt_33 : ∀ w ∈ wsL_law_r33, w ∈ lw_tbl := ixOk_mem (is := [719, 720, 721, 722, 723, 272, 274, 724, 725, 726, 727, 728, 1327, 1328, 1329, 1330, 960, 961, 1331, 1333, 56, 1334, 1335, 1337]) (by decide +kernel)
theorem lwt_34 : ∀ w ∈ wsL_law_r34, w ∈ lw_tbl := ixOk_mem (is := [57, 1338, 962, 963, 1339, 1341, 58, 1342, 729, 730, 731, 732, 273, 1343, 1344, 1345, 1346, 733, 734, 735, 736, 737, 739, 14]) (by decide +kernel)
theorem lwt_35 : ∀ w ∈ wsL_law_r35, w ∈ lw_tbl := ixOk_mem (is := [740, 291, 299, 741, 743, 15, 744, 745, 746, 747, 748, 290, 749, 750, 751, 752, 1347, 1348, 1349, 1350, 966, 1351, 1353, 59]) (by decide +kernel)
theorem lwt_36 : ∀ w ∈ wsL_law_r36, w ∈ lw_tbl := ixOk_mem (is := [1354, 753, 754, 755, 756, 293, 295, 297, 1355, 1356, 1357, 1358, 757, 758, 759, 760, 324, 326, 761, 762, 763, 764, 320, 323]) (by decide +kernel)
theorem lwt_37 : ∀ w ∈ wsL_law_r37, w ∈ lw_tbl := ixOk_mem (is := [325, 765, 766, 767, 768, 769, 112, 770, 771, 772, 773, 208, 125, 212, 774, 775, 776, 777, 778, 779, 780, 781, 782, 783]) (by decide +kernel)
theorem lwt_38 : ∀ w ∈ wsL_law_r38, w ∈ lw_tbl := ixOk_mem (is := [784, 786, 785, 787, 788, 789, 790, 1359, 1360, 1361, 1362, 969, 970, 1363, 1365, 60, 1366, 1367, 1369, 61, 1370, 791, 792, 793]) (by decide +kernel)
theorem lwt_39 : ∀ w ∈ wsL_law_r39, w ∈ lw_tbl := ixOk_mem (is := [794, 322, 1371, 1372, 1373, 1374, 795, 796, 797, 798, 799, 801, 16, 802, 1375, 1376, 1377, 1378, 803, 804, 805, 806, 351, 349]) (by decide +kernel)
theorem lwt_40 : ∀ w ∈ wsL_law_r40, w ∈ lw_tbl := ixOk_mem (is := [807, 808, 809, 810, 350, 206, 211, 115, 119, 123, 128, 215, 811, 812, 813, 814, 815, 816, 817, 818, 819, 820, 821, 822]) (by decide +kernel)
theorem lwt_41 : ∀ w ∈ wsL_law_r41, w ∈ lw_tbl := ixOk_mem (is := [825, 826, 827, 828, 829, 830, 831, 85, 832, 1469, 833, 834, 835, 836, 837, 1470, 839, 840, 841, 842, 843, 844, 845, 846]) (by decide +kernel)
theorem lwt_42 : ∀ w ∈ wsL_law_r42, w ∈ lw_tbl := ixOk_mem (is := [847, 848, 86, 849, 850, 851, 852, 853, 855, 856, 87, 857, 858, 859, 88, 860, 861, 862, 863, 864, 865, 866, 867, 868]) (by decide +kernel)
theorem lwt_43 : ∀ w ∈ wsL_law_r43, w ∈ lw_tbl := ixOk_mem (is := [869, 870, 871, 873, 875, 1379, 1380, 1381, 1382, 972, 1383, 1385, 62, 1386, 1387, 1389, 63, 1390, 1391, 1393, 64, 1394, 1395, 1397]) (by decide +kernel)
theorem lwt_44 : ∀ w ∈ wsL_law_r44, w ∈ lw_tbl := ixOk_mem (is := [65, 1398, 1401, 1402, 878, 879, 880, 881, 367, 365, 1403, 1404, 1405, 1406, 974, 882, 883, 884, 885, 370, 886, 887, 888, 889]) (by decide +kernel)
theorem lwt_45 : ∀ w ∈ wsL_law_r45, w ∈ lw_tbl := ixOk_mem (is := [368, 369, 366, 890, 891, 892, 893, 894, 895, 896, 907, 908, 909, 910, 911, 912, 915, 916, 917, 918, 919, 921, 17, 922]) (by decide +kernel)
theorem lwt_46 : ∀ w ∈ wsL_law_r46, w ∈ lw_tbl := ixOk_mem (is := [374, 372, 1407, 1408, 1409, 1410, 975, 976, 1411, 1413, 66, 1414, 1415, 1417, 67, 1418, 1419, 1421, 68, 1422, 1423, 1435, 1437, 69]) (by decide +kernel)
theorem lwt_47 : ∀ w ∈ wsL_law_r47, w ∈ lw_tbl := ixOk_mem (is := [1438, 1439, 1441, 70, 1442, 1443, 1445, 71, 1446, 1447, 1448, 1449, 1450, 1451, 1452, 1453, 1454, 1455, 1456, 923, 924, 925, 926, 1457]) (by decide +kernel)
theorem lwt_48 : ∀ w ∈ wsL_law_r48, w ∈ lw_tbl := ixOk_mem (is := [1458, 1459, 1460, 950, 927, 928, 929, 930, 1461, 1462, 1463, 1464, 931, 932, 933, 934, 935, 936, 937, 938, 1465, 1466, 1467, 1468]) (by decide +kernel)
theorem lwt_X00 : ∀ w ∈ wsX00, w ∈ lw_tbl := ixOk_mem (is := [375, 377, 379, 381, 383, 385]) (by decide +kernel)
theorem lwt_X10 : ∀ w ∈ wsX10, w ∈ lw_tbl := ixOk_mem (is := [191, 193, 195]) (by decide +kernel)
theorem lwt_X20 : ∀ w ∈ wsX20, w ∈ lw_tbl := ixOk_mem (is := [275, 277, 279, 281]) (by decide +kernel)
theorem lwt_X30 : ∀ w ∈ wsX30, w ∈ lw_tbl := ixOk_mem (is := [151, 153, 155, 157, 159, 161, 163, 165, 167, 169, 171, 173, 175]) (by decide +kernel)
theorem lwt_X40 : ∀ w ∈ wsX40, w ∈ lw_tbl := ixOk_mem (is := [300, 302, 304, 306, 308]) (by decide +kernel)
theorem lwt_X50 : ∀ w ∈ wsX50, w ∈ lw_tbl := ixOk_mem (is := [352, 354]) (by decide +kernel)
theorem lwt_X60 : ∀ w ∈ wsX60, w ∈ lw_tbl := ixOk_mem (is := [232, 234, 236, 238, 240, 242, 244, 246, 248, 250, 252, 254, 256, 258]) (by decide +kernel)
theorem lwt_X70 : ∀ w ∈ wsX70, w ∈ lw_tbl := ixOk_mem (is := [327, 329, 331, 333, 335, 337, 339]) (by decide +kernel)
theorem lwt_X80 : ∀ w ∈ wsX80, w ∈ lw_tbl := ixOk_mem (is := [399, 401, 403, 405, 407, 409, 411, 413, 415, 417, 419]) (by decide +kernel)
theorem lwt_X90 : ∀ w ∈ wsX90, w ∈ lw_tbl := ixOk_mem (is := [978, 980, 982, 984, 986, 988, 990, 992, 994, 996, 998, 1000, 1002, 1004, 1006, 1008, 1010, 1012, 1014, 1016, 1018, 1020, 1022, 1024, 1026, 1028, 1030, 1032, 1034, 1036]) (by decide +kernel)
theorem lwt_all : ∀ w ∈ wsL_law, w ∈ lw_tbl := by
  intro w h
  unfold wsL_law at h
  simp only [List.mem_append] at h
  rcases h with ((((((((((h | h) | h) | h) | h) | h) | h) | h) | h) | h) | h) | h
  · rcases h with h | h | h | h | h | h | h | h | h | h | h | h | h | h | h | h | h | h | h | h | h | h | h | h | h | h | h | h | h | h | h | h | h | h | h | h | h | h | h | h | h | h | h | h | h | h | h | h
    · exact lwt_1 w h
    · exact lwt_2 w h
    · exact lwt_3 w h
    · exact lwt_4 w h
    · exact lwt_5 w h
    · exact lwt_6 w h
    · exact lwt_7 w h
    · exact lwt_8 w h
    · exact lwt_9 w h
    · exact lwt_10 w h
    · exact lwt_11 w h
    · exact lwt_12 w h
    · exact lwt_13 w h
    · exact lwt_14 w h
    · exact lwt_15 w h
    · exact lwt_16 w h
    · exact lwt_17 w h
    · exact lwt_18 w h
    · exact lwt_19 w h
    · exact lwt_20 w h
    · exact lwt_21 w h
    · exact lwt_22 w h
    · exact lwt_23 w h
    · exact lwt_24 w h
    · exact lwt_25 w h
    · exact lwt_26 w h
    · exact lwt_27 w h
    · exact lwt_28 w h
    · exact lwt_29 w h
    · exact lwt_30 w h
    · exact lwt_31 w h
    · exact lwt_32 w h
    · exact lwt_33 w h
    · exact lwt_34 w h
    · exact lwt_35 w h
    · exact lwt_36 w h
    · exact lwt_37 w h
    · exact lwt_38 w h
    · exact lwt_39 w h
    · exact lwt_40 w h
    · exact lwt_41 w h
    · exact lwt_42 w h
    · exact lwt_43 w h
    · exact lwt_44 w h
    · exact lwt_45 w h
    · exact lwt_46 w h
    · exact lwt_47 w h
    · exact lwt_48 w h
  · exact lwt_X80 w h
  · exact lwt_X90 w h
  · exact lwt_X30 w h
  · exact lwt_X10 w h
  · exact lwt_X60 w h
  · exact lwt_X20 w h
  · exact lwt_X40 w h
  · exact lwt_X70 w h
  · exact lwt_X50 w h
  · exact lwt_X00 w h
  · exact absurd h List.not_mem_nil
