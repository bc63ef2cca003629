/-! the law's words among the tables' -/
set_option maxRecDepth 20000 in
theorem lwi_0 : GoodIn lw_tbl wsL_law_r1 := goodIn_r _ [98, 99, 85, 851, 852, 94, 100, 101, 102, 103, 104, 105, 106, 107, 86, 332, 333, 334, 335, 336, 143, 144, 87, 337] (by decide +kernel) (by decide +kernel)
set_option maxRecDepth 20000 in
theorem lwi_1 : GoodIn lw_tbl wsL_law_r2 := goodIn_r _ [172, 173, 88, 338, 316, 339, 230, 340, 108, 109, 110, 111, 114, 141, 116, 118, 112, 120, 122, 124, 125, 146, 147, 148] (by decide +kernel) (by decide +kernel)
set_option maxRecDepth 20000 in
theorem lwi_2 : GoodIn lw_tbl wsL_law_r3 := goodIn_r _ [149, 151, 152, 153, 154, 155, 156, 174, 175, 176, 177, 178, 179, 89, 315, 229, 317, 246, 318, 248, 249, 91, 319, 320] (by decide +kernel) (by decide +kernel)
set_option maxRecDepth 20000 in
theorem lwi_3 : GoodIn lw_tbl wsL_law_r4 := goodIn_p _ [182, 188] (by decide +kernel) (by decide +kernel)
set_option maxRecDepth 20000 in
theorem lwi_4 : GoodIn lw_tbl wsL_law_r5 := goodIn_r _ [207, 208, 209, 250, 251, 252, 253, 271, 254, 273, 275, 277, 256, 92, 258, 259, 260, 261, 262, 263, 289, 290, 291, 292] (by decide +kernel) (by decide +kernel)
set_option maxRecDepth 20000 in
theorem lwi_5 : GoodIn lw_tbl wsL_law_r6 := goodIn_p _ [855] (by decide +kernel) (by decide +kernel)
set_option maxRecDepth 20000 in
theorem lwi_6 : GoodIn lw_tbl wsL_law_r7 := goodIn_r _ [878, 879, 880, 881, 882, 360, 361, 362, 363, 115, 364, 365, 366, 367, 368, 370, 0, 371, 372, 373, 374, 375, 376, 377] (by decide +kernel) (by decide +kernel)
set_option maxRecDepth 20000 in
theorem lwi_7 : GoodIn lw_tbl wsL_law_r8 := goodIn_r _ [378, 379, 380, 381, 382, 383, 385, 386, 935, 936, 937, 938, 939, 941, 32, 942, 943, 944, 945, 946, 948, 33, 949, 860] (by decide +kernel) (by decide +kernel)
set_option maxRecDepth 20000 in
theorem lwi_8 : GoodIn lw_tbl wsL_law_r9 := goodIn_p _ [953, 390, 395, 398] (by decide +kernel) (by decide +kernel)
set_option maxRecDepth 20000 in
theorem lwi_9 : GoodIn lw_tbl wsL_law_r10 := goodIn_r _ [405, 406, 407, 408, 409, 954, 955, 956, 957, 958, 960, 35, 961, 962, 963, 964, 965, 967, 36, 968, 410, 411, 412, 413] (by decide +kernel) (by decide +kernel)
set_option maxRecDepth 20000 in
theorem lwi_10 : GoodIn lw_tbl wsL_law_r11 := goodIn_r _ [119, 414, 415, 416, 417, 418, 419, 420, 421, 969, 970, 971, 972, 973, 975, 37, 976, 422, 423, 424, 425, 426, 427, 428] (by decide +kernel) (by decide +kernel)
set_option maxRecDepth 20000 in
theorem lwi_11 : GoodIn lw_tbl wsL_law_r12 := goodIn_r _ [429, 430, 977, 978, 979, 980, 431, 432, 433, 434, 435, 436, 437, 438, 981, 982, 983, 984, 985, 987, 38, 988, 989, 990] (by decide +kernel) (by decide +kernel)
set_option maxRecDepth 20000 in
theorem lwi_12 : GoodIn lw_tbl wsL_law_r13 := goodIn_r _ [991, 439, 440, 441, 442, 443, 444, 445, 446, 447, 449, 1, 450, 451, 453, 2, 454, 455, 456, 457, 458, 460, 461, 462] (by decide +kernel) (by decide +kernel)
set_option maxRecDepth 20000 in
theorem lwi_13 : GoodIn lw_tbl wsL_law_r14 := goodIn_r _ [463, 464, 465, 466, 467, 468, 469, 470, 992, 993, 994, 995, 996, 998, 39, 999, 1000, 1002, 40, 1003, 1004, 1005, 1006, 471] (by decide +kernel) (by decide +kernel)
set_option maxRecDepth 20000 in
theorem lwi_14 : GoodIn lw_tbl wsL_law_r15 := goodIn_r _ [472, 473, 474, 121, 475, 476, 477, 478, 479, 480, 481, 482, 484, 3, 485, 486, 488, 4, 489, 490, 492, 5, 493, 494] (by decide +kernel) (by decide +kernel)
set_option maxRecDepth 20000 in
theorem lwi_15 : GoodIn lw_tbl wsL_law_r16 := goodIn_r _ [496, 6, 497, 505, 506, 96, 507, 498, 500, 7, 501, 502, 503, 504, 508, 509, 510, 511, 512, 513, 97, 514, 515, 516] (by decide +kernel) (by decide +kernel)
set_option maxRecDepth 20000 in
theorem lwi_16 : GoodIn lw_tbl wsL_law_r17 := goodIn_r _ [517, 518, 519, 520, 521, 522, 525, 532, 534, 8, 535, 536, 537, 538, 539, 540, 542, 9, 543, 544, 545, 546, 547, 549] (by decide +kernel) (by decide +kernel)
set_option maxRecDepth 20000 in
theorem lwi_17 : GoodIn lw_tbl wsL_law_r18 := goodIn_r _ [551, 10, 552, 523, 526, 553, 555, 556, 557, 559, 11, 560, 561, 562, 563, 564, 565, 566, 567, 568, 193, 201, 205, 197] (by decide +kernel) (by decide +kernel)
set_option maxRecDepth 20000 in
theorem lwi_18 : GoodIn lw_tbl wsL_law_r19 := goodIn_r _ [570, 571, 572, 573, 574, 575, 577, 12, 578, 1015, 1016, 1017, 1018, 867, 1019, 1020, 1021, 1022, 1024, 41, 1025, 869, 871, 865] (by decide +kernel) (by decide +kernel)
set_option maxRecDepth 20000 in
theorem lwi_19 : GoodIn lw_tbl wsL_law_r20 := goodIn_r _ [1026, 1028, 42, 1029, 1030, 1032, 43, 1033, 1034, 1035, 1036, 1037, 1039, 44, 1040, 1041, 1042, 1043, 1044, 1046, 45, 1047, 1048, 1050] (by decide +kernel) (by decide +kernel)
set_option maxRecDepth 20000 in
theorem lwi_20 : GoodIn lw_tbl wsL_law_r21 := goodIn_r _ [46, 1051, 1052, 1054, 47, 1055, 1056, 1058, 48, 1059, 579, 580, 581, 582, 583, 584, 585, 586, 587, 1060, 1061, 1062, 1063, 1064] (by decide +kernel) (by decide +kernel)
set_option maxRecDepth 20000 in
theorem lwi_21 : GoodIn lw_tbl wsL_law_r22 := goodIn_r _ [1066, 49, 1067, 1068, 1070, 50, 1071, 588, 589, 590, 591, 524, 592, 593, 594, 595, 596, 1072, 1073, 1074, 1075, 1076, 1078, 51] (by decide +kernel) (by decide +kernel)
set_option maxRecDepth 20000 in
theorem lwi_22 : GoodIn lw_tbl wsL_law_r23 := goodIn_r _ [1079, 597, 598, 599, 600, 150, 601, 602, 603, 604, 605, 606, 607, 1007, 1008, 1009, 1010, 608, 609, 610, 611, 1011, 1012, 1013] (by decide +kernel) (by decide +kernel)
set_option maxRecDepth 20000 in
theorem lwi_23 : GoodIn lw_tbl wsL_law_r24 := goodIn_r _ [1014, 612, 613, 614, 615, 1218, 1219, 1220, 1221, 616, 617, 618, 619, 1222, 1223, 1224, 1225, 862, 620, 621, 622, 623, 1226, 1227] (by decide +kernel) (by decide +kernel)
set_option maxRecDepth 20000 in
theorem lwi_24 : GoodIn lw_tbl wsL_law_r25 := goodIn_r _ [1228, 1229, 624, 625, 626, 627, 123, 1230, 1231, 1232, 1233, 628, 629, 630, 631, 632, 1234, 1235, 1236, 1237, 633, 634, 635, 636] (by decide +kernel) (by decide +kernel)
set_option maxRecDepth 20000 in
theorem lwi_25 : GoodIn lw_tbl wsL_law_r26 := goodIn_r _ [637, 639, 13, 640, 641, 642, 643, 644, 645, 647, 14, 648, 192, 196, 200, 204, 650, 652, 653, 654, 655, 656, 657, 658] (by decide +kernel) (by decide +kernel)
set_option maxRecDepth 20000 in
theorem lwi_26 : GoodIn lw_tbl wsL_law_r27 := goodIn_r _ [659, 660, 661, 662, 663, 664, 665, 666, 667, 668, 669, 670, 671, 672, 673, 674, 675, 676, 295, 303, 677, 678, 679, 680] (by decide +kernel) (by decide +kernel)
set_option maxRecDepth 20000 in
theorem lwi_27 : GoodIn lw_tbl wsL_law_r28 := goodIn_p _ [685, 689, 693, 698] (by decide +kernel) (by decide +kernel)
set_option maxRecDepth 20000 in
theorem lwi_28 : GoodIn lw_tbl wsL_law_r29 := goodIn_r _ [699, 701, 16, 702, 191, 703, 704, 705, 706, 708, 710, 17, 711, 712, 714, 18, 715, 272, 274, 716, 717, 718, 719, 720] (by decide +kernel) (by decide +kernel)
set_option maxRecDepth 20000 in
theorem lwi_29 : GoodIn lw_tbl wsL_law_r30 := goodIn_r _ [721, 722, 723, 724, 725, 726, 727, 728, 730, 19, 731, 276, 732, 734, 20, 735, 736, 738, 21, 739, 740, 742, 22, 743] (by decide +kernel) (by decide +kernel)
set_option maxRecDepth 20000 in
theorem lwi_30 : GoodIn lw_tbl wsL_law_r31 := goodIn_r _ [744, 746, 23, 747, 748, 750, 24, 751, 753, 754, 755, 756, 757, 758, 759, 760, 762, 761, 763, 765, 25, 766, 767, 768] (by decide +kernel) (by decide +kernel)
set_option maxRecDepth 20000 in
theorem lwi_31 : GoodIn lw_tbl wsL_law_r32 := goodIn_r _ [769, 770, 771, 773, 26, 774, 775, 777, 27, 778, 780, 781, 782, 783, 784, 785, 1238, 1239, 1240, 1241, 1242, 1244, 76, 1245] (by decide +kernel) (by decide +kernel)
set_option maxRecDepth 20000 in
theorem lwi_32 : GoodIn lw_tbl wsL_law_r33 := goodIn_r _ [1246, 1248, 77, 1249, 1250, 1252, 78, 1253, 1254, 1256, 79, 1257, 1088, 1090, 53, 1091, 1092, 1094, 54, 1095, 1096, 1098, 55, 1099] (by decide +kernel) (by decide +kernel)
set_option maxRecDepth 20000 in
theorem lwi_33 : GoodIn lw_tbl wsL_law_r34 := goodIn_r _ [877, 1100, 1102, 56, 1103, 1104, 1106, 57, 1107, 1108, 1109, 1110, 1111, 1112, 1113, 1114, 1115, 1116, 1117, 1118, 1119, 1120, 1121, 1122] (by decide +kernel) (by decide +kernel)
set_option maxRecDepth 20000 in
theorem lwi_34 : GoodIn lw_tbl wsL_law_r35 := goodIn_r _ [1123, 1124, 1125, 1126, 1128, 58, 1129, 1130, 1132, 59, 1133, 1134, 1136, 60, 1137, 1138, 1140, 61, 1141, 1142, 1144, 62, 1145, 1146] (by decide +kernel) (by decide +kernel)
set_option maxRecDepth 20000 in
theorem lwi_35 : GoodIn lw_tbl wsL_law_r36 := goodIn_r _ [1148, 63, 1149, 1150, 1152, 64, 1153, 1154, 1156, 65, 1157, 1158, 1160, 66, 1161, 1162, 1164, 67, 1165, 1166, 1168, 68, 1169, 1170] (by decide +kernel) (by decide +kernel)
set_option maxRecDepth 20000 in
theorem lwi_36 : GoodIn lw_tbl wsL_law_r37 := goodIn_p _ [1173, 1177, 1181, 1185, 1189, 1193] (by decide +kernel) (by decide +kernel)
set_option maxRecDepth 20000 in
theorem lwi_37 : GoodIn lw_tbl wsL_law_r38 := goodIn_r _ [1196, 74, 1197, 1258, 1199, 1200, 1201, 1084, 1086, 52, 1087, 1202, 1204, 75, 1205, 1259, 1261, 80, 1262, 786, 787, 788, 789, 1263] (by decide +kernel) (by decide +kernel)
set_option maxRecDepth 20000 in
theorem lwi_38 : GoodIn lw_tbl wsL_law_r39 := goodIn_r _ [1264, 1265, 1266, 790, 791, 792, 793, 794, 796, 28, 797, 1080, 1081, 1082, 1083, 798, 799, 800, 801, 1198, 802, 803, 804, 805] (by decide +kernel) (by decide +kernel)
set_option maxRecDepth 20000 in
theorem lwi_39 : GoodIn lw_tbl wsL_law_r40 := goodIn_r _ [806, 807, 808, 809, 810, 811, 812, 813, 814, 815, 817, 29, 818, 819, 821, 30, 822, 823, 825, 31, 826, 1206, 1207, 1208] (by decide +kernel) (by decide +kernel)
set_option maxRecDepth 20000 in
theorem lwi_40 : GoodIn lw_tbl wsL_law_r41 := goodIn_r _ [1209, 827, 828, 829, 830, 1210, 1211, 1212, 1213, 831, 832, 833, 834, 1214, 1215, 1216, 1217, 835, 836, 837, 838, 839, 840, 841] (by decide +kernel) (by decide +kernel)
set_option maxRecDepth 20000 in
theorem lwi_41 : GoodIn lw_tbl wsL_law_r42 := goodIn_r _ [842, 843, 844, 845, 846, 847, 848, 849, 850, 1267, 1268, 1269, 1270, 1271, 1273, 81, 1274, 1275, 1277, 82, 1278, 1279, 1281, 83] (by decide +kernel) (by decide +kernel)
set_option maxRecDepth 20000 in
theorem lwi_42 : GoodIn lw_tbl wsL_law_r43 := goodIn_r _ [1282] (by decide +kernel) (by decide +kernel)
set_option maxRecDepth 20000 in
theorem lwi_43 : GoodIn lw_tbl wsX90 := goodIn_p _ [] (by decide +kernel) (by decide +kernel)
set_option maxRecDepth 20000 in
theorem lwi_44 : GoodIn lw_tbl wsX100 := goodIn_p _ [] (by decide +kernel) (by decide +kernel)
set_option maxRecDepth 20000 in
theorem lwi_45 : GoodIn lw_tbl wsX70 := goodIn_p _ [] (by decide +kernel) (by decide +kernel)
set_option maxRecDepth 20000 in
theorem lwi_46 : GoodIn lw_tbl wsX80 := goodIn_p _ [] (by decide +kernel) (by decide +kernel)
set_option maxRecDepth 20000 in
theorem lwi_47 : GoodIn lw_tbl wsX50 := goodIn_p _ [] (by decide +kernel) (by decide +kernel)
set_option maxRecDepth 20000 in
theorem lwi_48 : GoodIn lw_tbl wsX60 := goodIn_p _ [] (by decide +kernel) (by decide +kernel)
set_option maxRecDepth 20000 in
theorem lwi_49 : GoodIn lw_tbl wsX10 := goodIn_p _ [] (by decide +kernel) (by decide +kernel)
set_option maxRecDepth 20000 in
theorem lwi_50 : GoodIn lw_tbl wsX20 := goodIn_p _ [] (by decide +kernel) (by decide +kernel)
set_option maxRecDepth 20000 in
theorem lwi_51 : GoodIn lw_tbl wsX40 := goodIn_p _ [] (by decide +kernel) (by decide +kernel)
set_option maxRecDepth 20000 in
theorem lwi_52 : GoodIn lw_tbl wsX30 := goodIn_p _ [] (by decide +kernel) (by decide +kernel)
set_option maxRecDepth 20000 in
theorem lwi_53 : GoodIn lw_tbl wsX00 := goodIn_p _ [] (by decide +kernel) (by decide +kernel)
theorem wsL_law_good : GoodIn lw_tbl wsL_law := (goodIn_app (goodIn_app (goodIn_app (goodIn_app (goodIn_app (goodIn_app (goodIn_app (goodIn_app (goodIn_app (goodIn_app (goodIn_app (goodIn_app (goodIn_app lwi_0 (goodIn_app lwi_1 (goodIn_app lwi_2 (goodIn_app lwi_3 (goodIn_app lwi_4 (goodIn_app lwi_5 (goodIn_app lwi_6 (goodIn_app lwi_7 (goodIn_app lwi_8 (goodIn_app lwi_9 (goodIn_app lwi_10 (goodIn_app lwi_11 (goodIn_app lwi_12 (goodIn_app lwi_13 (goodIn_app lwi_14 (goodIn_app lwi_15 (goodIn_app lwi_16 (goodIn_app lwi_17 (goodIn_app lwi_18 (goodIn_app lwi_19 (goodIn_app lwi_20 (goodIn_app lwi_21 (goodIn_app lwi_22 (goodIn_app lwi_23 (goodIn_app lwi_24 (goodIn_app lwi_25 (goodIn_app lwi_26 (goodIn_app lwi_27 (goodIn_app lwi_28 (goodIn_app lwi_29 (goodIn_app lwi_30 (goodIn_app lwi_31 (goodIn_app lwi_32 (goodIn_app lwi_33 (goodIn_app lwi_34 (goodIn_app lwi_35 (goodIn_app lwi_36 (goodIn_app lwi_37 (goodIn_app lwi_38 (goodIn_app lwi_39 (goodIn_app lwi_40 (goodIn_app lwi_41 lwi_42)))))))))))))))))))))))))))))))))))))))))) lwi_43) lwi_44) lwi_45) lwi_46) lwi_47) lwi_48) lwi_49) lwi_50) lwi_51) lwi_52) lwi_53) (fun _ h => absurd h List.not_mem_nil))
theorem wsL_law_in : ∀ w ∈ wsL_law, w ∈ lw_tbl := fun w h => (wsL_law_good w h).1
theorem inlX0 : ∀ w ∈ wsX00, w ∈ wsL_law := fun _ h => List.mem_append_left _ (List.mem_append_right _ h)
theorem inX0 : ∀ w ∈ wsX00, w ∈ lw_tbl := fun w h => wsL_law_in w (inlX0 w h)
theorem inlX1 : ∀ w ∈ wsX10, w ∈ wsL_law := fun _ h => List.mem_append_left _ (List.mem_append_left _ (List.mem_append_left _ (List.mem_append_left _ (List.mem_append_left _ (List.mem_append_right _ h)))))
theorem inX1 : ∀ w ∈ wsX10, w ∈ lw_tbl := fun w h => wsL_law_in w (inlX1 w h)
theorem inlX2 : ∀ w ∈ wsX20, w ∈ wsL_law := fun _ h => List.mem_append_left _ (List.mem_append_left _ (List.mem_append_left _ (List.mem_append_left _ (List.mem_append_right _ h))))
theorem inX2 : ∀ w ∈ wsX20, w ∈ lw_tbl := fun w h => wsL_law_in w (inlX2 w h)
theorem inlX3 : ∀ w ∈ wsX30, w ∈ wsL_law := fun _ h => List.mem_append_left _ (List.mem_append_left _ (List.mem_append_right _ h))
theorem inX3 : ∀ w ∈ wsX30, w ∈ lw_tbl := fun w h => wsL_law_in w (inlX3 w h)
theorem inlX4 : ∀ w ∈ wsX40, w ∈ wsL_law := fun _ h => List.mem_append_left _ (List.mem_append_left _ (List.mem_append_left _ (List.mem_append_right _ h)))
theorem inX4 : ∀ w ∈ wsX40, w ∈ lw_tbl := fun w h => wsL_law_in w (inlX4 w h)
theorem inlX5 : ∀ w ∈ wsX50, w ∈ wsL_law := fun _ h => List.mem_append_left _ (List.mem_append_left _ (List.mem_append_left _ (List.mem_append_left _ (List.mem_append_left _ (List.mem_append_left _ (List.mem_append_left _ (List.mem_append_right _ h)))))))
theorem inX5 : ∀ w ∈ wsX50, w ∈ lw_tbl := fun w h => wsL_law_in w (inlX5 w h)
theorem inlX6 : ∀ w ∈ wsX60, w ∈ wsL_law := fun _ h => List.mem_append_left _ (List.mem_append_left _ (List.mem_append_left _ (List.mem_append_left _ (List.mem_append_left _ (List.mem_append_left _ (List.mem_append_right _ h))))))
theorem inX6 : ∀ w ∈ wsX60, w ∈ lw_tbl := fun w h => wsL_law_in w (inlX6 w h)
theorem inlX7 : ∀ w ∈ wsX70, w ∈ wsL_law := fun _ h => List.mem_append_left _ (List.mem_append_left _ (List.mem_append_left _ (List.mem_append_left _ (List.mem_append_left _ (List.mem_append_left _ (List.mem_append_left _ (List.mem_append_left _ (List.mem_append_left _ (List.mem_append_right _ h)))))))))
theorem inX7 : ∀ w ∈ wsX70, w ∈ lw_tbl := fun w h => wsL_law_in w (inlX7 w h)
theorem inlX8 : ∀ w ∈ wsX80, w ∈ wsL_law := fun _ h => List.mem_append_left _ (List.mem_append_left _ (List.mem_append_left _ (List.mem_append_left _ (List.mem_append_left _ (List.mem_append_left _ (List.mem_append_left _ (List.mem_append_left _ (List.mem_append_right _ h))))))))
theorem inX8 : ∀ w ∈ wsX80, w ∈ lw_tbl := fun w h => wsL_law_in w (inlX8 w h)
theorem inlX9 : ∀ w ∈ wsX90, w ∈ wsL_law := fun _ h => List.mem_append_left _ (List.mem_append_left _ (List.mem_append_left _ (List.mem_append_left _ (List.mem_append_left _ (List.mem_append_left _ (List.mem_append_left _ (List.mem_append_left _ (List.mem_append_left _ (List.mem_append_left _ (List.mem_append_left _ (List.mem_append_right _ h)))))))))))
theorem inX9 : ∀ w ∈ wsX90, w ∈ lw_tbl := fun w h => wsL_law_in w (inlX9 w h)
theorem inlX10 : ∀ w ∈ wsX100, w ∈ wsL_law := fun _ h => List.mem_append_left _ (List.mem_append_left _ (List.mem_append_left _ (List.mem_append_left _ (List.mem_append_left _ (List.mem_append_left _ (List.mem_append_left _ (List.mem_append_left _ (List.mem_append_left _ (List.mem_append_left _ (List.mem_append_right _ h))))))))))
theorem inX10 : ∀ w ∈ wsX100, w ∈ lw_tbl := fun w h => wsL_law_in w (inlX10 w h)
theorem inJ6 : ∀ w ∈ wsJ60, w ∈ lw_tbl := by decide +kernel
theorem inJ9 : ∀ w ∈ wsJ90, w ∈ lw_tbl := by decide +kernel
