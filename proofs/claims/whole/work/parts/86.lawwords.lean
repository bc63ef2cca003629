/-! the law's words among the tables' -/
set_option maxRecDepth 20000 in
theorem lwi_0 : GoodIn lw_tbl wsL_law_r1 := goodIn_r _ [105, 106, 92, 950, 951, 102, 107, 108, 109, 110, 111, 112, 113, 114, 93, 352, 353, 354, 355, 356, 150, 151, 94, 357] (by decide +kernel) (by decide +kernel)
set_option maxRecDepth 20000 in
theorem lwi_1 : GoodIn lw_tbl wsL_law_r2 := goodIn_r _ [179, 180, 95, 358, 321, 359, 241, 360, 115, 116, 117, 118, 121, 148, 123, 125, 119, 127, 129, 131, 132, 153, 154, 155] (by decide +kernel) (by decide +kernel)
set_option maxRecDepth 20000 in
theorem lwi_2 : GoodIn lw_tbl wsL_law_r3 := goodIn_r _ [156, 158, 159, 160, 161, 162, 163, 182, 183, 184, 185, 186, 96, 320, 240, 322, 257, 258, 98, 323, 324, 295, 264, 99] (by decide +kernel) (by decide +kernel)
set_option maxRecDepth 20000 in
theorem lwi_3 : GoodIn lw_tbl wsL_law_r4 := goodIn_p _ [189] (by decide +kernel) (by decide +kernel)
set_option maxRecDepth 20000 in
theorem lwi_4 : GoodIn lw_tbl wsL_law_r5 := goodIn_r _ [195, 196, 197, 202, 207, 212, 217, 218, 219, 220, 259, 260, 261, 262, 277, 263, 279, 282, 283, 281, 265, 266, 267, 268] (by decide +kernel) (by decide +kernel)
set_option maxRecDepth 20000 in
theorem lwi_5 : GoodIn lw_tbl wsL_law_r6 := goodIn_r _ [269, 270, 100, 271, 276, 272, 296, 300, 301, 302, 305, 303, 307, 309, 310, 304, 952, 953, 954, 955, 957, 958, 960, 962] (by decide +kernel) (by decide +kernel)
set_option maxRecDepth 20000 in
theorem lwi_6 : GoodIn lw_tbl wsL_law_r7 := goodIn_p _ [383] (by decide +kernel) (by decide +kernel)
set_option maxRecDepth 20000 in
theorem lwi_7 : GoodIn lw_tbl wsL_law_r8 := goodIn_r _ [387, 388, 390, 0, 391, 392, 393, 394, 395, 396, 397, 398, 399, 400, 401, 402, 403, 405, 406, 1034, 1035, 1036, 1037, 1038] (by decide +kernel) (by decide +kernel)
set_option maxRecDepth 20000 in
theorem lwi_8 : GoodIn lw_tbl wsL_law_r9 := goodIn_r _ [1040, 39, 1041, 1042, 1043, 1044, 1045, 1047, 40, 1048, 959, 1049, 1051, 41, 1052, 407, 408, 409, 410, 124, 411, 412, 413, 414] (by decide +kernel) (by decide +kernel)
set_option maxRecDepth 20000 in
theorem lwi_9 : GoodIn lw_tbl wsL_law_r10 := goodIn_p _ [415, 418, 425, 429, 1056, 1060] (by decide +kernel) (by decide +kernel)
set_option maxRecDepth 20000 in
theorem lwi_10 : GoodIn lw_tbl wsL_law_r11 := goodIn_r _ [1061, 1062, 1063, 1064, 1066, 43, 1067, 430, 431, 432, 433, 126, 434, 435, 436, 437, 438, 439, 440, 441, 1068, 1069, 1070, 1071] (by decide +kernel) (by decide +kernel)
set_option maxRecDepth 20000 in
theorem lwi_11 : GoodIn lw_tbl wsL_law_r12 := goodIn_r _ [1072, 1074, 44, 1075, 442, 443, 444, 445, 446, 447, 448, 449, 450, 1076, 1077, 1078, 1079, 451, 452, 453, 454, 455, 456, 457] (by decide +kernel) (by decide +kernel)
set_option maxRecDepth 20000 in
theorem lwi_12 : GoodIn lw_tbl wsL_law_r13 := goodIn_r _ [458, 1080, 1081, 1082, 1083, 1084, 1086, 45, 1087, 1088, 1089, 1090, 459, 460, 461, 462, 463, 464, 465, 466, 467, 469, 1, 470] (by decide +kernel) (by decide +kernel)
set_option maxRecDepth 20000 in
theorem lwi_13 : GoodIn lw_tbl wsL_law_r14 := goodIn_r _ [471, 473, 2, 474, 475, 476, 477, 478, 480, 481, 482, 483, 484, 485, 486, 487, 488, 489, 490, 1091, 1092, 1093, 1094, 1095] (by decide +kernel) (by decide +kernel)
set_option maxRecDepth 20000 in
theorem lwi_14 : GoodIn lw_tbl wsL_law_r15 := goodIn_r _ [1097, 46, 1098, 1099, 1101, 47, 1102, 1103, 1104, 1105, 491, 492, 493, 494, 128, 495, 496, 497, 498, 499, 500, 501, 502, 504] (by decide +kernel) (by decide +kernel)
set_option maxRecDepth 20000 in
theorem lwi_15 : GoodIn lw_tbl wsL_law_r16 := goodIn_r _ [3, 505, 506, 508, 4, 509, 510, 512, 5, 513, 514, 516, 6, 517, 525, 518, 520, 7, 521, 522, 523, 524, 526, 527] (by decide +kernel) (by decide +kernel)
set_option maxRecDepth 20000 in
theorem lwi_16 : GoodIn lw_tbl wsL_law_r17 := goodIn_r _ [528, 529, 530, 531, 104, 532, 533, 534, 535, 536, 537, 538, 539, 540, 543, 550, 552, 8, 553, 554, 555, 556, 557, 558] (by decide +kernel) (by decide +kernel)
set_option maxRecDepth 20000 in
theorem lwi_17 : GoodIn lw_tbl wsL_law_r18 := goodIn_r _ [560, 9, 561, 562, 563, 564, 565, 567, 569, 10, 570, 541, 544, 571, 573, 574, 575, 577, 11, 578, 579, 580, 581, 582] (by decide +kernel) (by decide +kernel)
set_option maxRecDepth 20000 in
theorem lwi_18 : GoodIn lw_tbl wsL_law_r19 := goodIn_r _ [583, 584, 585, 586, 201, 211, 216, 206, 588, 589, 590, 591, 592, 593, 595, 12, 596, 1114, 1115, 1116, 1117, 966, 1118, 1119] (by decide +kernel) (by decide +kernel)
set_option maxRecDepth 20000 in
theorem lwi_19 : GoodIn lw_tbl wsL_law_r20 := goodIn_r _ [1120, 1121, 1123, 48, 1124, 968, 970, 964, 1125, 1127, 49, 1128, 1129, 1131, 50, 1132, 1133, 1134, 1135, 1136, 1138, 51, 1139, 1140] (by decide +kernel) (by decide +kernel)
set_option maxRecDepth 20000 in
theorem lwi_20 : GoodIn lw_tbl wsL_law_r21 := goodIn_r _ [1141, 1142, 1143, 1145, 52, 1146, 1147, 1149, 53, 1150, 1151, 1153, 54, 1154, 1155, 1157, 55, 1158, 597, 598, 599, 600, 601, 602] (by decide +kernel) (by decide +kernel)
set_option maxRecDepth 20000 in
theorem lwi_21 : GoodIn lw_tbl wsL_law_r22 := goodIn_r _ [603, 604, 605, 1159, 1160, 1161, 1162, 1163, 1165, 56, 1166, 1167, 1169, 57, 1170, 606, 607, 608, 609, 542, 610, 611, 612, 613] (by decide +kernel) (by decide +kernel)
set_option maxRecDepth 20000 in
theorem lwi_22 : GoodIn lw_tbl wsL_law_r23 := goodIn_r _ [614, 1171, 1172, 1173, 1174, 1175, 1177, 58, 1178, 615, 616, 617, 618, 157, 619, 620, 621, 622, 623, 624, 625, 1106, 1107, 1108] (by decide +kernel) (by decide +kernel)
set_option maxRecDepth 20000 in
theorem lwi_23 : GoodIn lw_tbl wsL_law_r24 := goodIn_r _ [1109, 626, 627, 628, 629, 1110, 1111, 1112, 1113, 630, 631, 632, 633, 1317, 1318, 1319, 1320, 634, 635, 636, 637, 1321, 1322, 1323] (by decide +kernel) (by decide +kernel)
set_option maxRecDepth 20000 in
theorem lwi_24 : GoodIn lw_tbl wsL_law_r25 := goodIn_r _ [1324, 961, 638, 639, 640, 641, 1325, 1326, 1327, 1328, 642, 643, 644, 645, 130, 1329, 1330, 1331, 1332, 646, 647, 648, 649, 650] (by decide +kernel) (by decide +kernel)
set_option maxRecDepth 20000 in
theorem lwi_25 : GoodIn lw_tbl wsL_law_r26 := goodIn_r _ [1333, 1334, 1335, 1336, 651, 652, 653, 654, 655, 657, 13, 658, 659, 660, 661, 662, 663, 665, 14, 666, 200, 205, 210, 215] (by decide +kernel) (by decide +kernel)
set_option maxRecDepth 20000 in
theorem lwi_26 : GoodIn lw_tbl wsL_law_r27 := goodIn_r _ [668, 671, 672, 673, 674, 675, 676, 677, 678, 679, 680, 681, 682, 683, 684, 685, 686, 687, 688, 689, 690, 691, 692, 693] (by decide +kernel) (by decide +kernel)
set_option maxRecDepth 20000 in
theorem lwi_27 : GoodIn lw_tbl wsL_law_r28 := goodIn_p _ [695, 699, 703, 708, 713, 717] (by decide +kernel) (by decide +kernel)
set_option maxRecDepth 20000 in
theorem lwi_28 : GoodIn lw_tbl wsL_law_r29 := goodIn_p _ [721, 725, 729, 733, 737, 742] (by decide +kernel) (by decide +kernel)
set_option maxRecDepth 20000 in
theorem lwi_29 : GoodIn lw_tbl wsL_law_r30 := goodIn_r _ [203, 208, 213, 743, 745, 17, 746, 198, 747, 748, 749, 750, 752, 754, 18, 755, 756, 757, 758, 760, 19, 761, 306, 280] (by decide +kernel) (by decide +kernel)
set_option maxRecDepth 20000 in
theorem lwi_30 : GoodIn lw_tbl wsL_law_r31 := goodIn_r _ [308, 762, 763, 764, 765, 766, 768, 20, 769, 770, 771, 772, 773, 774, 775, 777, 21, 778, 779, 781, 22, 782, 278, 783] (by decide +kernel) (by decide +kernel)
set_option maxRecDepth 20000 in
theorem lwi_31 : GoodIn lw_tbl wsL_law_r32 := goodIn_r _ [784, 786, 23, 787, 788, 789, 791, 24, 792, 793, 794, 795, 796, 798, 800, 25, 801, 802, 803, 804, 805, 199, 806, 808] (by decide +kernel) (by decide +kernel)
set_option maxRecDepth 20000 in
theorem lwi_32 : GoodIn lw_tbl wsL_law_r33 := goodIn_r _ [26, 809, 204, 209, 214, 810, 811, 812, 813, 814, 815, 817, 27, 818, 819, 821, 28, 822, 824, 826, 29, 827, 828, 830] (by decide +kernel) (by decide +kernel)
set_option maxRecDepth 20000 in
theorem lwi_33 : GoodIn lw_tbl wsL_law_r34 := goodIn_r _ [30, 831, 832, 833, 834, 835, 836, 837, 838, 839, 840, 841, 842, 843, 844, 845, 846, 847, 848, 849, 850, 851, 852, 853] (by decide +kernel) (by decide +kernel)
set_option maxRecDepth 20000 in
theorem lwi_34 : GoodIn lw_tbl wsL_law_r35 := goodIn_r _ [855, 854, 856, 858, 31, 859, 860, 861, 862, 863, 864, 866, 32, 867, 868, 870, 33, 871, 872, 873, 874, 875, 876, 877] (by decide +kernel) (by decide +kernel)
set_option maxRecDepth 20000 in
theorem lwi_35 : GoodIn lw_tbl wsL_law_r36 := goodIn_r _ [1337, 1338, 1339, 1340, 1341, 1343, 83, 1344, 1345, 1347, 84, 1348, 1349, 1351, 85, 1352, 1353, 1355, 86, 1356, 1187, 1189, 60, 1190] (by decide +kernel) (by decide +kernel)
set_option maxRecDepth 20000 in
theorem lwi_36 : GoodIn lw_tbl wsL_law_r37 := goodIn_r _ [1191, 1193, 61, 1194, 1195, 1197, 62, 1198, 976, 1199, 1201, 63, 1202, 1203, 1205, 64, 1206, 1207, 1208, 1209, 1210, 1211, 1212, 1213] (by decide +kernel) (by decide +kernel)
set_option maxRecDepth 20000 in
theorem lwi_37 : GoodIn lw_tbl wsL_law_r38 := goodIn_r _ [1214, 1215, 1216, 1217, 1218, 1219, 1220, 1221, 1222, 1223, 1224, 1225, 1227, 65, 1228, 1229, 1231, 66, 1232, 1233, 1235, 67, 1236, 1237] (by decide +kernel) (by decide +kernel)
set_option maxRecDepth 20000 in
theorem lwi_38 : GoodIn lw_tbl wsL_law_r39 := goodIn_r _ [1239, 68, 1240, 1241, 1243, 69, 1244, 1245, 1247, 70, 1248, 1249, 1251, 71, 1252, 1253, 1255, 72, 1256, 1257, 1259, 73, 1260, 1261] (by decide +kernel) (by decide +kernel)
set_option maxRecDepth 20000 in
theorem lwi_39 : GoodIn lw_tbl wsL_law_r40 := goodIn_r _ [1263, 74, 1264, 1265, 1267, 75, 1268, 1269, 1271, 76, 1272, 1273, 1275, 77, 1276, 1277, 1279, 78, 1280, 1281, 1283, 79, 1284, 1285] (by decide +kernel) (by decide +kernel)
set_option maxRecDepth 20000 in
theorem lwi_40 : GoodIn lw_tbl wsL_law_r41 := goodIn_p _ [1288, 1292, 1296, 1300, 1186, 1304] (by decide +kernel) (by decide +kernel)
set_option maxRecDepth 20000 in
theorem lwi_41 : GoodIn lw_tbl wsL_law_r42 := goodIn_r _ [1360, 87, 1361, 878, 879, 880, 881, 1362, 1363, 1364, 1365, 882, 883, 884, 885, 886, 888, 34, 889, 1179, 1180, 1181, 1182, 890] (by decide +kernel) (by decide +kernel)
set_option maxRecDepth 20000 in
theorem lwi_42 : GoodIn lw_tbl wsL_law_r43 := goodIn_r _ [891, 892, 893, 1297, 894, 895, 896, 897, 898, 899, 900, 901, 902, 904, 35, 905, 906, 907, 908, 909, 910, 912, 36, 913] (by decide +kernel) (by decide +kernel)
set_option maxRecDepth 20000 in
theorem lwi_43 : GoodIn lw_tbl wsL_law_r44 := goodIn_r _ [914, 915, 916, 917, 918, 920, 37, 921, 922, 924, 38, 925, 1305, 1306, 1307, 1308, 926, 927, 928, 929, 1309, 1310, 1311, 1312] (by decide +kernel) (by decide +kernel)
set_option maxRecDepth 20000 in
theorem lwi_44 : GoodIn lw_tbl wsL_law_r45 := goodIn_r _ [930, 931, 932, 933, 1313, 1314, 1315, 1316, 934, 935, 936, 937, 938, 939, 940, 941, 942, 943, 944, 945, 946, 947, 948, 949] (by decide +kernel) (by decide +kernel)
set_option maxRecDepth 20000 in
theorem lwi_45 : GoodIn lw_tbl wsL_law_r46 := goodIn_r _ [1366, 1367, 1368, 1369, 1370, 1372, 88, 1373, 1374, 1376, 89, 1377, 1378, 1380, 90, 1381] (by decide +kernel) (by decide +kernel)
set_option maxRecDepth 20000 in
theorem lwi_46 : GoodIn lw_tbl wsX90 := goodIn_p _ [] (by decide +kernel) (by decide +kernel)
set_option maxRecDepth 20000 in
theorem lwi_47 : GoodIn lw_tbl wsX100 := goodIn_p _ [] (by decide +kernel) (by decide +kernel)
set_option maxRecDepth 20000 in
theorem lwi_48 : GoodIn lw_tbl wsX70 := goodIn_p _ [] (by decide +kernel) (by decide +kernel)
set_option maxRecDepth 20000 in
theorem lwi_49 : GoodIn lw_tbl wsX80 := goodIn_p _ [] (by decide +kernel) (by decide +kernel)
set_option maxRecDepth 20000 in
theorem lwi_50 : GoodIn lw_tbl wsX50 := goodIn_p _ [] (by decide +kernel) (by decide +kernel)
set_option maxRecDepth 20000 in
theorem lwi_51 : GoodIn lw_tbl wsX60 := goodIn_p _ [] (by decide +kernel) (by decide +kernel)
set_option maxRecDepth 20000 in
theorem lwi_52 : GoodIn lw_tbl wsX20 := goodIn_p _ [] (by decide +kernel) (by decide +kernel)
set_option maxRecDepth 20000 in
theorem lwi_53 : GoodIn lw_tbl wsX30 := goodIn_p _ [] (by decide +kernel) (by decide +kernel)
set_option maxRecDepth 20000 in
theorem lwi_54 : GoodIn lw_tbl wsX10 := goodIn_p _ [] (by decide +kernel) (by decide +kernel)
set_option maxRecDepth 20000 in
theorem lwi_55 : GoodIn lw_tbl wsX40 := goodIn_p _ [] (by decide +kernel) (by decide +kernel)
set_option maxRecDepth 20000 in
theorem lwi_56 : GoodIn lw_tbl wsX00 := goodIn_p _ [] (by decide +kernel) (by decide +kernel)
theorem wsL_law_good : GoodIn lw_tbl wsL_law := (goodIn_app (goodIn_app (goodIn_app (goodIn_app (goodIn_app (goodIn_app (goodIn_app (goodIn_app (goodIn_app (goodIn_app (goodIn_app (goodIn_app (goodIn_app lwi_0 (goodIn_app lwi_1 (goodIn_app lwi_2 (goodIn_app lwi_3 (goodIn_app lwi_4 (goodIn_app lwi_5 (goodIn_app lwi_6 (goodIn_app lwi_7 (goodIn_app lwi_8 (goodIn_app lwi_9 (goodIn_app lwi_10 (goodIn_app lwi_11 (goodIn_app lwi_12 (goodIn_app lwi_13 (goodIn_app lwi_14 (goodIn_app lwi_15 (goodIn_app lwi_16 (goodIn_app lwi_17 (goodIn_app lwi_18 (goodIn_app lwi_19 (goodIn_app lwi_20 (goodIn_app lwi_21 (goodIn_app lwi_22 (goodIn_app lwi_23 (goodIn_app lwi_24 (goodIn_app lwi_25 (goodIn_app lwi_26 (goodIn_app lwi_27 (goodIn_app lwi_28 (goodIn_app lwi_29 (goodIn_app lwi_30 (goodIn_app lwi_31 (goodIn_app lwi_32 (goodIn_app lwi_33 (goodIn_app lwi_34 (goodIn_app lwi_35 (goodIn_app lwi_36 (goodIn_app lwi_37 (goodIn_app lwi_38 (goodIn_app lwi_39 (goodIn_app lwi_40 (goodIn_app lwi_41 (goodIn_app lwi_42 (goodIn_app lwi_43 (goodIn_app lwi_44 lwi_45))))))))))))))))))))))))))))))))))))))))))))) lwi_46) lwi_47) lwi_48) lwi_49) lwi_50) lwi_51) lwi_52) lwi_53) lwi_54) lwi_55) lwi_56) (fun _ h => absurd h List.not_mem_nil))
theorem wsL_law_in : ∀ w ∈ wsL_law, w ∈ lw_tbl := fun w h => (wsL_law_good w h).1
theorem inlX0 : ∀ w ∈ wsX00, w ∈ wsL_law := fun _ h => List.mem_append_left _ (List.mem_append_right _ h)
theorem inX0 : ∀ w ∈ wsX00, w ∈ lw_tbl := fun w h => wsL_law_in w (inlX0 w h)
theorem inlX1 : ∀ w ∈ wsX10, w ∈ wsL_law := fun _ h => List.mem_append_left _ (List.mem_append_left _ (List.mem_append_left _ (List.mem_append_right _ h)))
theorem inX1 : ∀ w ∈ wsX10, w ∈ lw_tbl := fun w h => wsL_law_in w (inlX1 w h)
theorem inlX2 : ∀ w ∈ wsX20, w ∈ wsL_law := fun _ h => List.mem_append_left _ (List.mem_append_left _ (List.mem_append_left _ (List.mem_append_left _ (List.mem_append_left _ (List.mem_append_right _ h)))))
theorem inX2 : ∀ w ∈ wsX20, w ∈ lw_tbl := fun w h => wsL_law_in w (inlX2 w h)
theorem inlX3 : ∀ w ∈ wsX30, w ∈ wsL_law := fun _ h => List.mem_append_left _ (List.mem_append_left _ (List.mem_append_left _ (List.mem_append_left _ (List.mem_append_right _ h))))
theorem inX3 : ∀ w ∈ wsX30, w ∈ lw_tbl := fun w h => wsL_law_in w (inlX3 w h)
theorem inlX4 : ∀ w ∈ wsX40, w ∈ wsL_law := fun _ h => List.mem_append_left _ (List.mem_append_left _ (List.mem_append_right _ h))
theorem inX4 : ∀ w ∈ wsX40, w ∈ lw_tbl := fun w h => wsL_law_in w (inlX4 w h)
theorem inlX5 : ∀ w ∈ wsX50, w ∈ wsL_law := fun _ h => List.mem_append_left _ (List.mem_append_left _ (List.mem_append_left _ (List.mem_append_left _ (List.mem_append_left _ (List.mem_append_left _ (List.mem_append_left _ (List.mem_append_right _ h)))))))
theorem inX5 : ∀ w ∈ wsX50, w ∈ lw_tbl := fun w h => wsL_law_in w (inlX5 w h)
theorem inlX6 : ∀ w ∈ wsX60, w ∈ wsL_law := fun _ h => List.mem_append_left _ (List.mem_append_left _ (List.mem_append_left _ (List.mem_append_left _ (List.mem_append_left _ (List.mem_append_left _ (List.mem_append_right _ h))))))
theorem inX6 : ∀ w ∈ wsX60, w ∈ lw_tbl := fun w h => wsL_law_in w (inlX6 w h)
theorem inlX7 : ∀ w ∈ wsX70, w ∈ wsL_law := fun _ h => List.mem_append_left _ (List.mem_append_left _ (List.mem_append_left _ (List.mem_append_left _ (List.mem_append_left _ (List.mem_append_left _ (List.mem_append_left _ (List.mem_append_left _ (List.mem_append_left _ (List.mem_append_right _ h)))))))))
theorem inX7 : ∀ w ∈ wsX70, w ∈ lw_tbl := fun w h => wsL_law_in w (inlX7 w h)
theorem inlX8 : ∀ w ∈ wsX80, w ∈ wsL_law := fun _ h => List.mem_append_left _ (List.mem_append_left _ (List.mem_append_left _ (List.mem_append_left _ (List.mem_append_left _ (List.mem_append_left _ (List.mem_append_left _ (List.mem_append_left _ (List.mem_append_right _ h))))))))
theorem inX8 : ∀ w ∈ wsX80, w ∈ lw_tbl := fun w h => wsL_law_in w (inlX8 w h)
theorem inlX9 : ∀ w ∈ wsX90, w ∈ wsL_law := fun _ h => List.mem_append_left _ (List.mem_append_left _ (List.mem_append_left _ (List.mem_append_left _ (List.mem_append_left _ (List.mem_append_left _ (List.mem_append_left _ (List.mem_append_left _ (List.mem_append_left _ (List.mem_append_left _ (List.mem_append_left _ (List.mem_append_right _ h)))))))))))
theorem inX9 : ∀ w ∈ wsX90, w ∈ lw_tbl := fun w h => wsL_law_in w (inlX9 w h)
theorem inlX10 : ∀ w ∈ wsX100, w ∈ wsL_law := fun _ h => List.mem_append_left _ (List.mem_append_left _ (List.mem_append_left _ (List.mem_append_left _ (List.mem_append_left _ (List.mem_append_left _ (List.mem_append_left _ (List.mem_append_left _ (List.mem_append_left _ (List.mem_append_left _ (List.mem_append_right _ h))))))))))
theorem inX10 : ∀ w ∈ wsX100, w ∈ lw_tbl := fun w h => wsL_law_in w (inlX10 w h)
theorem inJ6 : ∀ w ∈ wsJ60, w ∈ lw_tbl := by decide +kernel
theorem inJ9 : ∀ w ∈ wsJ90, w ∈ lw_tbl := by decide +kernel
