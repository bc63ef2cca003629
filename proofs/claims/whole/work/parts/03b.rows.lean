set_option maxRecDepth 20000 in
theorem ggX5_init_X6_init : GoodIn wsX5_init wsX6_init := goodIn_r _ [30, 31, 2, 3, 32, 33, 34, 35, 14, 36, 37, 38, 39, 40, 41, 42, 43, 44, 45, 46, 47, 48, 49, 50, 51, 52, 108, 109, 110, 111, 112, 113, 114, 115, 83, 84, 85, 86, 87] (by decide +kernel) (by decide +kernel)
set_option maxRecDepth 20000 in
theorem gX5_init_X6_init : GoodIn wsX5_init (wsX6_init) := ggX5_init_X6_init
set_option maxRecDepth 20000 in
theorem ggX5_init_X2_init : GoodIn wsX5_init wsX2_init := goodIn_r _ [55, 56, 2, 3, 57, 58, 17, 18, 59, 14, 60, 61, 62, 63, 64, 65, 66, 67, 68, 69, 70, 71, 72, 98, 99, 100, 101, 102, 103] (by decide +kernel) (by decide +kernel)
set_option maxRecDepth 20000 in
theorem gX5_init_X2_init : GoodIn wsX5_init (wsX2_init) := ggX5_init_X2_init
set_option maxRecDepth 20000 in
theorem ggX5_init_X3_init : GoodIn wsX5_init wsX3_init := goodIn_r _ [65, 66, 2, 3, 67, 68, 69, 70, 71, 72, 103] (by decide +kernel) (by decide +kernel)
set_option maxRecDepth 20000 in
theorem gX5_init_X3_init : GoodIn wsX5_init (wsX3_init) := ggX5_init_X3_init
set_option maxRecDepth 20000 in
theorem ggX5_init_X1_init : GoodIn wsX5_init wsX1_init := goodIn_r _ [75, 76, 2, 3, 77, 78, 17, 18, 79, 14, 80, 81, 82, 64, 65, 66, 67, 68, 69, 70, 71, 72, 104, 105, 106, 107, 103] (by decide +kernel) (by decide +kernel)
set_option maxRecDepth 20000 in
theorem gX5_init_X1_init_n58 : GoodIn wsX5_init (wsX1_init) := ggX5_init_X1_init
theorem dX5_init_0 : decode cX5_init 0 = .ok (.aload_n 0, 1) := by decide +kernel
theorem dX5_init_1 : decode cX5_init 1 = .ok (.invokespecial 5, 3) := by decide +kernel
theorem dX5_init_4 : decode cX5_init 4 = .ok (.aload_n 0, 1) := by decide +kernel
theorem dX5_init_5 : decode cX5_init 5 = .ok (.new 11, 3) := by decide +kernel
theorem dX5_init_8 : decode cX5_init 8 = .ok (.dup, 1) := by decide +kernel
theorem dX5_init_9 : decode cX5_init 9 = .ok (.invokespecial 13, 3) := by decide +kernel
theorem dX5_init_12 : decode cX5_init 12 = .ok (.putfield 14, 3) := by decide +kernel
theorem dX5_init_15 : decode cX5_init 15 = .ok (.aload_n 0, 1) := by decide +kernel
theorem dX5_init_16 : decode cX5_init 16 = .ok (.aload_n 0, 1) := by decide +kernel
theorem dX5_init_17 : decode cX5_init 17 = .ok (.getfield 14, 3) := by decide +kernel
theorem dX5_init_20 : decode cX5_init 20 = .ok (.getfield 20, 3) := by decide +kernel
theorem dX5_init_23 : decode cX5_init 23 = .ok (.putfield 24, 3) := by decide +kernel
theorem dX5_init_26 : decode cX5_init 26 = .ok (.aload_n 0, 1) := by decide +kernel
theorem dX5_init_27 : decode cX5_init 27 = .ok (.new 25, 3) := by decide +kernel
theorem dX5_init_30 : decode cX5_init 30 = .ok (.dup, 1) := by decide +kernel
theorem dX5_init_31 : decode cX5_init 31 = .ok (.aload_n 0, 1) := by decide +kernel
theorem dX5_init_32 : decode cX5_init 32 = .ok (.getfield 24, 3) := by decide +kernel
theorem dX5_init_35 : decode cX5_init 35 = .ok (.invokespecial 27, 3) := by decide +kernel
theorem dX5_init_38 : decode cX5_init 38 = .ok (.putfield 30, 3) := by decide +kernel
theorem dX5_init_41 : decode cX5_init 41 = .ok (.aload_n 0, 1) := by decide +kernel
theorem dX5_init_42 : decode cX5_init 42 = .ok (.sipush 153, 3) := by decide +kernel
theorem dX5_init_45 : decode cX5_init 45 = .ok (.newarray .int, 2) := by decide +kernel
theorem dX5_init_47 : decode cX5_init 47 = .ok (.putfield 34, 3) := by decide +kernel
theorem dX5_init_50 : decode cX5_init 50 = .ok (.aload_n 0, 1) := by decide +kernel
theorem dX5_init_51 : decode cX5_init 51 = .ok (.new 38, 3) := by decide +kernel
theorem dX5_init_54 : decode cX5_init 54 = .ok (.dup, 1) := by decide +kernel
theorem dX5_init_55 : decode cX5_init 55 = .ok (.sipush 153, 3) := by decide +kernel
theorem dX5_init_58 : decode cX5_init 58 = .ok (.invokespecial 40, 3) := by decide +kernel
theorem dX5_init_61 : decode cX5_init 61 = .ok (.putfield 43, 3) := by decide +kernel
theorem dX5_init_64 : decode cX5_init 64 = .ok (.aload_n 0, 1) := by decide +kernel
theorem dX5_init_65 : decode cX5_init 65 = .ok (.new 38, 3) := by decide +kernel
theorem dX5_init_68 : decode cX5_init 68 = .ok (.dup, 1) := by decide +kernel
theorem dX5_init_69 : decode cX5_init 69 = .ok (.sipush 153, 3) := by decide +kernel
theorem dX5_init_72 : decode cX5_init 72 = .ok (.invokespecial 40, 3) := by decide +kernel
theorem dX5_init_75 : decode cX5_init 75 = .ok (.putfield 47, 3) := by decide +kernel
theorem dX5_init_78 : decode cX5_init 78 = .ok (.aload_n 0, 1) := by decide +kernel
theorem dX5_init_79 : decode cX5_init 79 = .ok (.new 38, 3) := by decide +kernel
theorem dX5_init_82 : decode cX5_init 82 = .ok (.dup, 1) := by decide +kernel
theorem dX5_init_83 : decode cX5_init 83 = .ok (.sipush 153, 3) := by decide +kernel
theorem dX5_init_86 : decode cX5_init 86 = .ok (.invokespecial 40, 3) := by decide +kernel
theorem dX5_init_89 : decode cX5_init 89 = .ok (.putfield 50, 3) := by decide +kernel
theorem dX5_init_92 : decode cX5_init 92 = .ok (.aload_n 0, 1) := by decide +kernel
theorem dX5_init_93 : decode cX5_init 93 = .ok (.sipush 153, 3) := by decide +kernel
theorem dX5_init_96 : decode cX5_init 96 = .ok (.newarray .int, 2) := by decide +kernel
theorem dX5_init_98 : decode cX5_init 98 = .ok (.putfield 53, 3) := by decide +kernel
theorem dX5_init_101 : decode cX5_init 101 = .ok (.aload_n 0, 1) := by decide +kernel
theorem dX5_init_102 : decode cX5_init 102 = .ok (.new 56, 3) := by decide +kernel
theorem dX5_init_105 : decode cX5_init 105 = .ok (.dup, 1) := by decide +kernel
theorem dX5_init_106 : decode cX5_init 106 = .ok (.invokespecial 58, 3) := by decide +kernel
theorem dX5_init_109 : decode cX5_init 109 = .ok (.putfield 59, 3) := by decide +kernel
theorem dX5_init_112 : decode cX5_init 112 = .ok (.aload_n 0, 1) := by decide +kernel
theorem dX5_init_113 : decode cX5_init 113 = .ok (.new 56, 3) := by decide +kernel
theorem dX5_init_116 : decode cX5_init 116 = .ok (.dup, 1) := by decide +kernel
theorem dX5_init_117 : decode cX5_init 117 = .ok (.invokespecial 58, 3) := by decide +kernel
theorem dX5_init_120 : decode cX5_init 120 = .ok (.putfield 63, 3) := by decide +kernel
theorem dX5_init_123 : decode cX5_init 123 = .ok (.return_, 1) := by decide +kernel
set_option maxRecDepth 20000 in
theorem ggX5_startAnew_X1_clear : GoodIn wsX5_startAnew wsX1_clear := goodIn_r _ [7, 8, 9, 20, 21, 22, 23] (by decide +kernel) (by decide +kernel)
set_option maxRecDepth 20000 in
theorem gX5_startAnew_X1_clear : GoodIn wsX5_startAnew (wsV RX5 66 RX1 yX1_clear wsX1_clear) := goodIn_app (goodIn_of _ (by decide +kernel)) ggX5_startAnew_X1_clear
theorem dX5_startAnew_0 : decode cX5_startAnew 0 = .ok (.aload_n 0, 1) := by decide +kernel
theorem dX5_startAnew_1 : decode cX5_startAnew 1 = .ok (.getfield 59, 3) := by decide +kernel
theorem dX5_startAnew_4 : decode cX5_startAnew 4 = .ok (.invokevirtual 66, 3) := by decide +kernel
theorem dX5_startAnew_7 : decode cX5_startAnew 7 = .ok (.aload_n 0, 1) := by decide +kernel
theorem dX5_startAnew_8 : decode cX5_startAnew 8 = .ok (.getfield 63, 3) := by decide +kernel
theorem dX5_startAnew_11 : decode cX5_startAnew 11 = .ok (.invokevirtual 66, 3) := by decide +kernel
theorem dX5_startAnew_14 : decode cX5_startAnew 14 = .ok (.return_, 1) := by decide +kernel
set_option maxRecDepth 20000 in
theorem ggX5_isFound_X2_cutTo : GoodIn wsX5_isFound wsX2_cutTo := goodIn_r _ [9, 10, 11, 12, 13, 14, 8, 15, 16, 17, 18, 19, 20, 21, 22, 23, 24, 25, 26, 224, 225, 226, 227, 228, 229] (by decide +kernel) (by decide +kernel)
set_option maxRecDepth 20000 in
theorem gX5_isFound_X2_cutTo : GoodIn wsX5_isFound (wsV RX5 69 RX2 yX2_cutTo wsX2_cutTo) := goodIn_app (goodIn_of _ (by decide +kernel)) ggX5_isFound_X2_cutTo
set_option maxRecDepth 20000 in
theorem ggX5_isFound_X5_assume_h : GoodIn wsX5_isFound [Cond.code yX5_assume cX5_assume 3 none] := goodIn_r _ [31] (by decide +kernel) (by decide +kernel)
set_option maxRecDepth 20000 in
theorem ggX5_isFound_X5_assume_0 : GoodIn wsX5_isFound wsX5_assume_r1 := goodIn_r _ [1, 3, 32, 33, 34, 35, 8, 36, 37, 38, 39, 40, 11, 10, 16, 41, 42, 43, 44, 23, 45, 25, 46, 47] (by decide +kernel) (by decide +kernel)
set_option maxRecDepth 20000 in
theorem ggX5_isFound_X5_assume_1 : GoodIn wsX5_isFound wsX5_assume_r2 := goodIn_r _ [48, 49, 26, 50, 51, 52, 53, 54, 55, 56, 57, 58, 59, 17, 18, 19] (by decide +kernel) (by decide +kernel)
set_option maxRecDepth 20000 in
theorem ggX5_isFound_X5_assume_2 : GoodIn wsX5_isFound wsX50 := goodIn_r _ [214, 215, 216, 217, 218, 219, 220, 221, 222, 223] (by decide +kernel) (by decide +kernel)
set_option maxRecDepth 20000 in
theorem ggX5_isFound_X5_assume_3 : GoodIn wsX5_isFound wsX20 := goodIn_r _ [224, 225, 226, 227, 228] (by decide +kernel) (by decide +kernel)
set_option maxRecDepth 20000 in
theorem ggX5_isFound_X5_assume_4 : GoodIn wsX5_isFound wsX30 := goodIn_r _ [229] (by decide +kernel) (by decide +kernel)
set_option maxRecDepth 20000 in
theorem ggX5_isFound_X5_assume_5 : GoodIn wsX5_isFound wsX60 := goodIn_r _ [230, 231, 232, 233, 234] (by decide +kernel) (by decide +kernel)
theorem ggX5_isFound_X5_assume : GoodIn wsX5_isFound wsX5_assume := goodIn_app ggX5_isFound_X5_assume_h (goodIn_app (goodIn_app (goodIn_app (goodIn_app (goodIn_app ggX5_isFound_X5_assume_0 ggX5_isFound_X5_assume_1) ggX5_isFound_X5_assume_2) ggX5_isFound_X5_assume_3) ggX5_isFound_X5_assume_4) ggX5_isFound_X5_assume_5)
set_option maxRecDepth 20000 in
theorem gX5_isFound_X5_assume : GoodIn wsX5_isFound (wsV RX5 72 RX5 yX5_assume wsX5_assume) := goodIn_app (goodIn_of _ (by decide +kernel)) ggX5_isFound_X5_assume
set_option maxRecDepth 20000 in
theorem ggX5_isFound_X9_has : GoodIn wsX5_isFound wsX9_has := goodIn_r _ [61] (by decide +kernel) (by decide +kernel)
set_option maxRecDepth 20000 in
theorem gX5_isFound_X9_has_n76 : GoodIn wsX5_isFound (wsX9_has) := ggX5_isFound_X9_has
set_option maxRecDepth 20000 in
theorem ggX5_isFound_X4_whole : GoodIn wsX5_isFound wsX4_whole := goodIn_r _ [66, 67, 17, 18, 19, 235, 236, 237, 238, 239, 240, 241, 242] (by decide +kernel) (by decide +kernel)
set_option maxRecDepth 20000 in
theorem gX5_isFound_X4_whole : GoodIn wsX5_isFound (wsV RX5 80 RX4 yX4_whole wsX4_whole) := goodIn_app (goodIn_of _ (by decide +kernel)) ggX5_isFound_X4_whole
set_option maxRecDepth 20000 in
theorem ggX5_isFound_X5_proves_h : GoodIn wsX5_isFound [Cond.code yX5_proves cX5_proves 10 (some .boolean)] := goodIn_r _ [70] (by decide +kernel) (by decide +kernel)
set_option maxRecDepth 20000 in
theorem ggX5_isFound_X5_proves_0 : GoodIn wsX5_isFound wsX5_proves_r1 := goodIn_r _ [71, 4, 72, 73, 74, 1, 2, 75, 76, 77, 78, 79, 80, 81, 30, 82, 83, 84, 85, 86, 65, 87, 88, 89] (by decide +kernel) (by decide +kernel)
set_option maxRecDepth 20000 in
theorem ggX5_isFound_X5_proves_1 : GoodIn wsX5_isFound wsX5_proves_r2 := goodIn_r _ [17, 18, 19, 27, 28, 29, 31, 3, 32, 33, 34, 35, 8, 36, 37, 38, 39, 40, 11, 10, 16, 41, 42, 43] (by decide +kernel) (by decide +kernel)
set_option maxRecDepth 20000 in
theorem ggX5_isFound_X5_proves_2 : GoodIn wsX5_isFound wsX5_proves_r3 := goodIn_r _ [44, 23, 45, 25, 46, 47, 48, 49, 26, 50, 51, 52, 53, 54, 55, 56, 57, 58, 59, 90, 91, 92, 93, 94] (by decide +kernel) (by decide +kernel)
set_option maxRecDepth 20000 in
theorem ggX5_isFound_X5_proves_3 : GoodIn wsX5_isFound wsX5_proves_r4 := goodIn_r _ [95, 96, 97, 98, 99, 100, 101, 102, 103, 104, 105, 106, 107, 108, 109, 110, 111, 112, 113, 114, 115, 116, 117, 118] (by decide +kernel) (by decide +kernel)
set_option maxRecDepth 20000 in
theorem ggX5_isFound_X5_proves_4 : GoodIn wsX5_isFound wsX5_proves_r5 := goodIn_r _ [119, 120, 121, 122, 123, 124, 125, 126, 13, 14, 15, 127, 128, 129, 130, 131, 21, 22, 24, 132, 133, 134, 135, 136] (by decide +kernel) (by decide +kernel)
set_option maxRecDepth 20000 in
theorem ggX5_isFound_X5_proves_5 : GoodIn wsX5_isFound wsX5_proves_r6 := goodIn_r _ [137, 138, 139, 140, 141, 142, 143, 144, 145, 146, 147, 148, 149, 150, 151, 152, 153, 154, 155, 156, 157, 158, 159, 160] (by decide +kernel) (by decide +kernel)
set_option maxRecDepth 20000 in
theorem ggX5_isFound_X5_proves_6 : GoodIn wsX5_isFound wsX5_proves_r7 := goodIn_r _ [161, 162, 163, 164, 165, 166, 167, 168, 169, 170, 171, 172, 173, 174, 175, 68, 69, 5, 6, 7, 9, 12, 20, 176] (by decide +kernel) (by decide +kernel)
set_option maxRecDepth 20000 in
theorem ggX5_isFound_X5_proves_7 : GoodIn wsX5_isFound wsX5_proves_r8 := goodIn_r _ [177, 178, 179, 180, 181, 182, 183, 184, 185, 186, 187, 188, 189, 190, 191, 192, 193, 194, 195, 196, 197, 198, 199, 200] (by decide +kernel) (by decide +kernel)
set_option maxRecDepth 20000 in
theorem ggX5_isFound_X5_proves_8 : GoodIn wsX5_isFound wsX5_proves_r9 := goodIn_r _ [201, 202, 203, 204, 205, 206, 207, 208, 209, 210, 211, 212, 213] (by decide +kernel) (by decide +kernel)
set_option maxRecDepth 20000 in
theorem ggX5_isFound_X5_proves_9 : GoodIn wsX5_isFound wsX50 := goodIn_r _ [214, 215, 216, 217, 218, 219, 220, 221, 222, 223] (by decide +kernel) (by decide +kernel)
set_option maxRecDepth 20000 in
theorem ggX5_isFound_X5_proves_10 : GoodIn wsX5_isFound wsX40 := goodIn_r _ [235, 236, 237, 238, 239, 240, 241, 242] (by decide +kernel) (by decide +kernel)
set_option maxRecDepth 20000 in
theorem ggX5_isFound_X5_proves_11 : GoodIn wsX5_isFound wsX20 := goodIn_r _ [224, 225, 226, 227, 228] (by decide +kernel) (by decide +kernel)
set_option maxRecDepth 20000 in
theorem ggX5_isFound_X5_proves_12 : GoodIn wsX5_isFound wsX30 := goodIn_r _ [229] (by decide +kernel) (by decide +kernel)
set_option maxRecDepth 20000 in
theorem ggX5_isFound_X5_proves_13 : GoodIn wsX5_isFound wsX60 := goodIn_r _ [230, 231, 232, 233, 234] (by decide +kernel) (by decide +kernel)
set_option maxRecDepth 20000 in
theorem ggX5_isFound_X5_proves_14 : GoodIn wsX5_isFound wsX10 := goodIn_r _ [243, 244, 245, 246] (by decide +kernel) (by decide +kernel)
theorem ggX5_isFound_X5_proves : GoodIn wsX5_isFound wsX5_proves := goodIn_app ggX5_isFound_X5_proves_h (goodIn_app (goodIn_app (goodIn_app (goodIn_app (goodIn_app (goodIn_app (goodIn_app ggX5_isFound_X5_proves_0 (goodIn_app ggX5_isFound_X5_proves_1 (goodIn_app ggX5_isFound_X5_proves_2 (goodIn_app ggX5_isFound_X5_proves_3 (goodIn_app ggX5_isFound_X5_proves_4 (goodIn_app ggX5_isFound_X5_proves_5 (goodIn_app ggX5_isFound_X5_proves_6 (goodIn_app ggX5_isFound_X5_proves_7 ggX5_isFound_X5_proves_8)))))))) ggX5_isFound_X5_proves_9) ggX5_isFound_X5_proves_10) ggX5_isFound_X5_proves_11) ggX5_isFound_X5_proves_12) ggX5_isFound_X5_proves_13) ggX5_isFound_X5_proves_14)
set_option maxRecDepth 20000 in
theorem gX5_isFound_X5_proves : GoodIn wsX5_isFound (va_wsS RX5 84 yX5_proves wsX5_proves) := goodIn_app (goodIn_of _ (by decide +kernel)) ggX5_isFound_X5_proves
theorem dX5_isFound_0 : decode cX5_isFound 0 = .ok (.aload_n 0, 1) := by decide +kernel
theorem dX5_isFound_1 : decode cX5_isFound 1 = .ok (.getfield 30, 3) := by decide +kernel
theorem dX5_isFound_4 : decode cX5_isFound 4 = .ok (.iconst 0, 1) := by decide +kernel
theorem dX5_isFound_5 : decode cX5_isFound 5 = .ok (.invokevirtual 69, 3) := by decide +kernel
theorem dX5_isFound_8 : decode cX5_isFound 8 = .ok (.aload_n 0, 1) := by decide +kernel
theorem dX5_isFound_9 : decode cX5_isFound 9 = .ok (.getfield 34, 3) := by decide +kernel
theorem dX5_isFound_12 : decode cX5_isFound 12 = .ok (.iconst 0, 1) := by decide +kernel
theorem dX5_isFound_13 : decode cX5_isFound 13 = .ok (.iconst 0, 1) := by decide +kernel
theorem dX5_isFound_14 : decode cX5_isFound 14 = .ok (.iastore, 1) := by decide +kernel
theorem dX5_isFound_15 : decode cX5_isFound 15 = .ok (.aload_n 0, 1) := by decide +kernel
theorem dX5_isFound_16 : decode cX5_isFound 16 = .ok (.getfield 53, 3) := by decide +kernel
theorem dX5_isFound_19 : decode cX5_isFound 19 = .ok (.iconst 0, 1) := by decide +kernel
theorem dX5_isFound_20 : decode cX5_isFound 20 = .ok (.iconst (-1), 1) := by decide +kernel
theorem dX5_isFound_21 : decode cX5_isFound 21 = .ok (.iastore, 1) := by decide +kernel
theorem dX5_isFound_22 : decode cX5_isFound 22 = .ok (.aload_n 0, 1) := by decide +kernel
theorem dX5_isFound_23 : decode cX5_isFound 23 = .ok (.iconst 0, 1) := by decide +kernel
theorem dX5_isFound_24 : decode cX5_isFound 24 = .ok (.iconst 4, 1) := by decide +kernel
theorem dX5_isFound_25 : decode cX5_isFound 25 = .ok (.invokevirtual 72, 3) := by decide +kernel
theorem dX5_isFound_28 : decode cX5_isFound 28 = .ok (.iconst 0, 1) := by decide +kernel
theorem dX5_isFound_29 : decode cX5_isFound 29 = .ok (.istore_n 3, 1) := by decide +kernel
theorem dX5_isFound_30 : decode cX5_isFound 30 = .ok (.iload_n 3, 1) := by decide +kernel
theorem dX5_isFound_31 : decode cX5_isFound 31 = .ok (.iconst 5, 1) := by decide +kernel
theorem dX5_isFound_32 : decode cX5_isFound 32 = .ok (.if_icmp .ge 30, 3) := by decide +kernel
theorem dX5_isFound_35 : decode cX5_isFound 35 = .ok (.iload_n 1, 1) := by decide +kernel
theorem dX5_isFound_36 : decode cX5_isFound 36 = .ok (.iload_n 3, 1) := by decide +kernel
theorem dX5_isFound_37 : decode cX5_isFound 37 = .ok (.invokestatic 76, 3) := by decide +kernel
theorem dX5_isFound_40 : decode cX5_isFound 40 = .ok (.ifCond .eq 16, 3) := by decide +kernel
theorem dX5_isFound_43 : decode cX5_isFound 43 = .ok (.aload_n 0, 1) := by decide +kernel
theorem dX5_isFound_44 : decode cX5_isFound 44 = .ok (.iconst 0, 1) := by decide +kernel
theorem dX5_isFound_45 : decode cX5_isFound 45 = .ok (.aload_n 0, 1) := by decide +kernel
theorem dX5_isFound_46 : decode cX5_isFound 46 = .ok (.getfield 24, 3) := by decide +kernel
theorem dX5_isFound_49 : decode cX5_isFound 49 = .ok (.iload_n 3, 1) := by decide +kernel
theorem dX5_isFound_50 : decode cX5_isFound 50 = .ok (.invokevirtual 80, 3) := by decide +kernel
theorem dX5_isFound_53 : decode cX5_isFound 53 = .ok (.invokevirtual 72, 3) := by decide +kernel
theorem dX5_isFound_56 : decode cX5_isFound 56 = .ok (.iinc 3 1, 3) := by decide +kernel
theorem dX5_isFound_59 : decode cX5_isFound 59 = .ok (.goto (-29), 3) := by decide +kernel
theorem dX5_isFound_62 : decode cX5_isFound 62 = .ok (.aload_n 0, 1) := by decide +kernel
theorem dX5_isFound_63 : decode cX5_isFound 63 = .ok (.iconst 0, 1) := by decide +kernel
theorem dX5_isFound_64 : decode cX5_isFound 64 = .ok (.aload_n 0, 1) := by decide +kernel
theorem dX5_isFound_65 : decode cX5_isFound 65 = .ok (.getfield 24, 3) := by decide +kernel
theorem dX5_isFound_68 : decode cX5_isFound 68 = .ok (.iload_n 2, 1) := by decide +kernel
theorem dX5_isFound_69 : decode cX5_isFound 69 = .ok (.invokevirtual 80, 3) := by decide +kernel
theorem dX5_isFound_72 : decode cX5_isFound 72 = .ok (.invokestatic 84, 3) := by decide +kernel
theorem dX5_isFound_75 : decode cX5_isFound 75 = .ok (.ireturn, 1) := by decide +kernel
set_option maxRecDepth 20000 in
theorem ggX5_proves_X5_openGoal_h : GoodIn wsX5_proves [Cond.code yX5_openGoal cX5_openGoal 5 (some .int)] := goodIn_r _ [16] (by decide +kernel) (by decide +kernel)
set_option maxRecDepth 20000 in
theorem ggX5_proves_X5_openGoal_0 : GoodIn wsX5_proves wsX5_openGoal_r1 := goodIn_r _ [2, 17, 4, 5, 18, 19, 20, 21, 22, 23, 24, 25, 26, 27, 28, 29, 30, 15, 31, 6, 32, 33, 34, 35] (by decide +kernel) (by decide +kernel)
set_option maxRecDepth 20000 in
theorem ggX5_proves_X5_openGoal_1 : GoodIn wsX5_proves wsX5_openGoal_r2 := goodIn_r _ [36, 37, 38, 39, 40, 41, 42, 43, 44, 45, 46, 47, 48, 49, 50, 51, 52, 53, 54, 55, 56, 57, 58, 59] (by decide +kernel) (by decide +kernel)
set_option maxRecDepth 20000 in
theorem ggX5_proves_X5_openGoal_2 : GoodIn wsX5_proves wsX5_openGoal_r3 := goodIn_r _ [60, 61, 62, 63, 64, 65, 66, 67] (by decide +kernel) (by decide +kernel)
set_option maxRecDepth 20000 in
theorem ggX5_proves_X5_openGoal_3 : GoodIn wsX5_proves wsX50 := goodIn_r _ [206, 207, 208, 209, 210, 211, 212, 213, 214, 215] (by decide +kernel) (by decide +kernel)
set_option maxRecDepth 20000 in
theorem ggX5_proves_X5_openGoal_4 : GoodIn wsX5_proves wsX40 := goodIn_r _ [216, 217, 218, 219, 220, 221, 222, 223] (by decide +kernel) (by decide +kernel)
set_option maxRecDepth 20000 in
theorem ggX5_proves_X5_openGoal_5 : GoodIn wsX5_proves wsX20 := goodIn_r _ [224, 225, 226, 227, 228] (by decide +kernel) (by decide +kernel)
set_option maxRecDepth 20000 in
theorem ggX5_proves_X5_openGoal_6 : GoodIn wsX5_proves wsX30 := goodIn_r _ [229] (by decide +kernel) (by decide +kernel)
set_option maxRecDepth 20000 in
theorem ggX5_proves_X5_openGoal_7 : GoodIn wsX5_proves wsX60 := goodIn_r _ [230, 231, 232, 233, 234] (by decide +kernel) (by decide +kernel)
theorem ggX5_proves_X5_openGoal : GoodIn wsX5_proves wsX5_openGoal := goodIn_app ggX5_proves_X5_openGoal_h (goodIn_app (goodIn_app (goodIn_app (goodIn_app (goodIn_app (goodIn_app ggX5_proves_X5_openGoal_0 (goodIn_app ggX5_proves_X5_openGoal_1 ggX5_proves_X5_openGoal_2)) ggX5_proves_X5_openGoal_3) ggX5_proves_X5_openGoal_4) ggX5_proves_X5_openGoal_5) ggX5_proves_X5_openGoal_6) ggX5_proves_X5_openGoal_7)
set_option maxRecDepth 20000 in
theorem gX5_proves_X5_openGoal : GoodIn wsX5_proves (wsV RX5 88 RX5 yX5_openGoal wsX5_openGoal) := goodIn_app (goodIn_of _ (by decide +kernel)) ggX5_proves_X5_openGoal
set_option maxRecDepth 20000 in
theorem ggX5_proves_X5_meetsSingle_h : GoodIn wsX5_proves [Cond.code yX5_meetsSingle cX5_meetsSingle 6 (some .boolean)] := goodIn_r _ [71] (by decide +kernel) (by decide +kernel)
set_option maxRecDepth 20000 in
theorem ggX5_proves_X5_meetsSingle_0 : GoodIn wsX5_proves wsX5_meetsSingle_r1 := goodIn_r _ [32, 33, 9, 2, 17, 25, 26, 27, 62, 63, 64, 65, 66, 67, 72, 54, 55, 50, 56, 52, 57, 73, 59, 60] (by decide +kernel) (by decide +kernel)
set_option maxRecDepth 20000 in
theorem ggX5_proves_X5_meetsSingle_1 : GoodIn wsX5_proves wsX5_meetsSingle_r2 := goodIn_r _ [61] (by decide +kernel) (by decide +kernel)
set_option maxRecDepth 20000 in
theorem ggX5_proves_X5_meetsSingle_2 : GoodIn wsX5_proves wsX50 := goodIn_r _ [206, 207, 208, 209, 210, 211, 212, 213, 214, 215] (by decide +kernel) (by decide +kernel)
set_option maxRecDepth 20000 in
theorem ggX5_proves_X5_meetsSingle_3 : GoodIn wsX5_proves wsX40 := goodIn_r _ [216, 217, 218, 219, 220, 221, 222, 223] (by decide +kernel) (by decide +kernel)
set_option maxRecDepth 20000 in
theorem ggX5_proves_X5_meetsSingle_4 : GoodIn wsX5_proves wsX60 := goodIn_r _ [230, 231, 232, 233, 234] (by decide +kernel) (by decide +kernel)
set_option maxRecDepth 20000 in
theorem ggX5_proves_X5_meetsSingle_5 : GoodIn wsX5_proves wsX30 := goodIn_r _ [229] (by decide +kernel) (by decide +kernel)
theorem ggX5_proves_X5_meetsSingle : GoodIn wsX5_proves wsX5_meetsSingle := goodIn_app ggX5_proves_X5_meetsSingle_h (goodIn_app (goodIn_app (goodIn_app (goodIn_app (goodIn_app ggX5_proves_X5_meetsSingle_0 ggX5_proves_X5_meetsSingle_1) ggX5_proves_X5_meetsSingle_2) ggX5_proves_X5_meetsSingle_3) ggX5_proves_X5_meetsSingle_4) ggX5_proves_X5_meetsSingle_5)
set_option maxRecDepth 20000 in
theorem gX5_proves_X5_meetsSingle : GoodIn wsX5_proves (wsV RX5 92 RX5 yX5_meetsSingle wsX5_meetsSingle) := goodIn_app (goodIn_of _ (by decide +kernel)) ggX5_proves_X5_meetsSingle
set_option maxRecDepth 20000 in
theorem ggX5_proves_X5_hasMet_h : GoodIn wsX5_proves [Cond.code yX5_hasMet cX5_hasMet 4 (some .boolean)] := goodIn_r _ [77] (by decide +kernel) (by decide +kernel)
set_option maxRecDepth 20000 in
theorem ggX5_proves_X5_hasMet_0 : GoodIn wsX5_proves wsX5_hasMet_r1 := goodIn_r _ [78, 79, 6, 80, 81, 9, 82, 83, 84, 50, 85, 57, 86, 87, 88, 89, 52, 90, 48, 49, 51, 91, 92, 93] (by decide +kernel) (by decide +kernel)
set_option maxRecDepth 20000 in
theorem ggX5_proves_X5_hasMet_1 : GoodIn wsX5_proves wsX5_hasMet_r2 := goodIn_r _ [94, 95, 96, 97, 98] (by decide +kernel) (by decide +kernel)
set_option maxRecDepth 20000 in
theorem ggX5_proves_X5_hasMet_2 : GoodIn wsX5_proves wsX50 := goodIn_r _ [206, 207, 208, 209, 210, 211, 212, 213, 214, 215] (by decide +kernel) (by decide +kernel)
set_option maxRecDepth 20000 in
theorem ggX5_proves_X5_hasMet_3 : GoodIn wsX5_proves wsX10 := goodIn_r _ [235, 236, 237, 238] (by decide +kernel) (by decide +kernel)
set_option maxRecDepth 20000 in
theorem ggX5_proves_X5_hasMet_4 : GoodIn wsX5_proves wsX20 := goodIn_r _ [224, 225, 226, 227, 228] (by decide +kernel) (by decide +kernel)
set_option maxRecDepth 20000 in
theorem ggX5_proves_X5_hasMet_5 : GoodIn wsX5_proves wsX30 := goodIn_r _ [229] (by decide +kernel) (by decide +kernel)
theorem ggX5_proves_X5_hasMet : GoodIn wsX5_proves wsX5_hasMet := goodIn_app ggX5_proves_X5_hasMet_h (goodIn_app (goodIn_app (goodIn_app (goodIn_app (goodIn_app ggX5_proves_X5_hasMet_0 ggX5_proves_X5_hasMet_1) ggX5_proves_X5_hasMet_2) ggX5_proves_X5_hasMet_3) ggX5_proves_X5_hasMet_4) ggX5_proves_X5_hasMet_5)
set_option maxRecDepth 20000 in
theorem gX5_proves_X5_hasMet : GoodIn wsX5_proves (wsV RX5 95 RX5 yX5_hasMet wsX5_hasMet) := goodIn_app (goodIn_of _ (by decide +kernel)) ggX5_proves_X5_hasMet
set_option maxRecDepth 20000 in
theorem ggX5_proves_X5_failsAtAllLast_h : GoodIn wsX5_proves [Cond.code yX5_failsAtAllLast cX5_failsAtAllLast 6 (some .boolean)] := goodIn_r _ [102] (by decide +kernel) (by decide +kernel)
set_option maxRecDepth 20000 in
theorem ggX5_proves_X5_failsAtAllLast_0 : GoodIn wsX5_proves wsX5_failsAtAllLast_r1 := goodIn_r _ [8, 6, 103, 33, 72, 54, 55, 50, 56, 52, 57, 104, 105, 106, 37, 107, 45, 25, 26, 27, 62, 63, 64, 65] (by decide +kernel) (by decide +kernel)
set_option maxRecDepth 20000 in
theorem ggX5_proves_X5_failsAtAllLast_1 : GoodIn wsX5_proves wsX5_failsAtAllLast_r2 := goodIn_r _ [66, 67, 73, 59, 60, 61, 90, 48, 49, 51, 108, 109, 110, 15, 111, 112, 113, 114, 115] (by decide +kernel) (by decide +kernel)
set_option maxRecDepth 20000 in
theorem ggX5_proves_X5_failsAtAllLast_2 : GoodIn wsX5_proves wsX50 := goodIn_r _ [206, 207, 208, 209, 210, 211, 212, 213, 214, 215] (by decide +kernel) (by decide +kernel)
set_option maxRecDepth 20000 in
theorem ggX5_proves_X5_failsAtAllLast_3 : GoodIn wsX5_proves wsX20 := goodIn_r _ [224, 225, 226, 227, 228] (by decide +kernel) (by decide +kernel)
set_option maxRecDepth 20000 in
theorem ggX5_proves_X5_failsAtAllLast_4 : GoodIn wsX5_proves wsX30 := goodIn_r _ [229] (by decide +kernel) (by decide +kernel)
set_option maxRecDepth 20000 in
theorem ggX5_proves_X5_failsAtAllLast_5 : GoodIn wsX5_proves wsX60 := goodIn_r _ [230, 231, 232, 233, 234] (by decide +kernel) (by decide +kernel)
theorem ggX5_proves_X5_failsAtAllLast : GoodIn wsX5_proves wsX5_failsAtAllLast := goodIn_app ggX5_proves_X5_failsAtAllLast_h (goodIn_app (goodIn_app (goodIn_app (goodIn_app (goodIn_app ggX5_proves_X5_failsAtAllLast_0 ggX5_proves_X5_failsAtAllLast_1) ggX5_proves_X5_failsAtAllLast_2) ggX5_proves_X5_failsAtAllLast_3) ggX5_proves_X5_failsAtAllLast_4) ggX5_proves_X5_failsAtAllLast_5)
set_option maxRecDepth 20000 in
theorem gX5_proves_X5_failsAtAllLast : GoodIn wsX5_proves (wsV RX5 98 RX5 yX5_failsAtAllLast wsX5_failsAtAllLast) := goodIn_app (goodIn_of _ (by decide +kernel)) ggX5_proves_X5_failsAtAllLast
set_option maxRecDepth 20000 in
theorem ggX5_proves_X5_hasProved_h : GoodIn wsX5_proves [Cond.code yX5_hasProved cX5_hasProved 4 (some .boolean)] := goodIn_r _ [119] (by decide +kernel) (by decide +kernel)
set_option maxRecDepth 20000 in
theorem ggX5_proves_X5_hasProved_0 : GoodIn wsX5_proves wsX5_hasProved_r1 := goodIn_r _ [11, 79, 81, 6, 80, 8, 120, 121, 122, 123, 124, 125, 25, 26, 27, 82, 83, 84, 50, 85, 57, 86, 87, 88] (by decide +kernel) (by decide +kernel)
set_option maxRecDepth 20000 in
theorem ggX5_proves_X5_hasProved_1 : GoodIn wsX5_proves wsX5_hasProved_r2 := goodIn_r _ [89, 52, 91, 92, 93, 94, 95, 96, 97, 98] (by decide +kernel) (by decide +kernel)
set_option maxRecDepth 20000 in
theorem ggX5_proves_X5_hasProved_2 : GoodIn wsX5_proves wsX50 := goodIn_r _ [206, 207, 208, 209, 210, 211, 212, 213, 214, 215] (by decide +kernel) (by decide +kernel)
set_option maxRecDepth 20000 in
theorem ggX5_proves_X5_hasProved_3 : GoodIn wsX5_proves wsX10 := goodIn_r _ [235, 236, 237, 238] (by decide +kernel) (by decide +kernel)
set_option maxRecDepth 20000 in
theorem ggX5_proves_X5_hasProved_4 : GoodIn wsX5_proves wsX20 := goodIn_r _ [224, 225, 226, 227, 228] (by decide +kernel) (by decide +kernel)
set_option maxRecDepth 20000 in
theorem ggX5_proves_X5_hasProved_5 : GoodIn wsX5_proves wsX30 := goodIn_r _ [229] (by decide +kernel) (by decide +kernel)
theorem ggX5_proves_X5_hasProved : GoodIn wsX5_proves wsX5_hasProved := goodIn_app ggX5_proves_X5_hasProved_h (goodIn_app (goodIn_app (goodIn_app (goodIn_app (goodIn_app ggX5_proves_X5_hasProved_0 ggX5_proves_X5_hasProved_1) ggX5_proves_X5_hasProved_2) ggX5_proves_X5_hasProved_3) ggX5_proves_X5_hasProved_4) ggX5_proves_X5_hasProved_5)
set_option maxRecDepth 20000 in
theorem gX5_proves_X5_hasProved : GoodIn wsX5_proves (wsV RX5 101 RX5 yX5_hasProved wsX5_hasProved) := goodIn_app (goodIn_of _ (by decide +kernel)) ggX5_proves_X5_hasProved
set_option maxRecDepth 20000 in
theorem ggX5_proves_X5_firstTrial_h : GoodIn wsX5_proves [Cond.code yX5_firstTrial cX5_firstTrial 4 (some .int)] := goodIn_r _ [129] (by decide +kernel) (by decide +kernel)
set_option maxRecDepth 20000 in
theorem ggX5_proves_X5_firstTrial_0 : GoodIn wsX5_proves wsX5_firstTrial_r1 := goodIn_r _ [6, 8, 2, 17, 3, 4, 5, 9, 130, 131, 132, 37, 133, 134, 135, 136, 137, 138, 139, 140, 141, 142, 43, 25] (by decide +kernel) (by decide +kernel)
set_option maxRecDepth 20000 in
theorem ggX5_proves_X5_firstTrial_1 : GoodIn wsX5_proves wsX5_firstTrial_r2 := goodIn_r _ [26, 27, 47, 48, 49, 50, 51, 52, 39, 40, 41, 42, 44, 45, 46, 53, 54, 55, 56, 57, 58, 59, 60, 61] (by decide +kernel) (by decide +kernel)
set_option maxRecDepth 20000 in
theorem ggX5_proves_X5_firstTrial_2 : GoodIn wsX5_proves wsX5_firstTrial_r3 := goodIn_r _ [143, 19, 20, 21, 22, 23, 24, 144, 145, 146, 147, 72, 73, 148, 149, 150, 15, 151, 10, 18, 90, 152, 153, 154] (by decide +kernel) (by decide +kernel)
set_option maxRecDepth 20000 in
theorem ggX5_proves_X5_firstTrial_3 : GoodIn wsX5_proves wsX5_firstTrial_r4 := goodIn_r _ [155] (by decide +kernel) (by decide +kernel)
set_option maxRecDepth 20000 in
theorem ggX5_proves_X5_firstTrial_4 : GoodIn wsX5_proves wsX50 := goodIn_r _ [206, 207, 208, 209, 210, 211, 212, 213, 214, 215] (by decide +kernel) (by decide +kernel)
set_option maxRecDepth 20000 in
theorem ggX5_proves_X5_firstTrial_5 : GoodIn wsX5_proves wsX40 := goodIn_r _ [216, 217, 218, 219, 220, 221, 222, 223] (by decide +kernel) (by decide +kernel)
set_option maxRecDepth 20000 in
theorem ggX5_proves_X5_firstTrial_6 : GoodIn wsX5_proves wsX20 := goodIn_r _ [224, 225, 226, 227, 228] (by decide +kernel) (by decide +kernel)
set_option maxRecDepth 20000 in
theorem ggX5_proves_X5_firstTrial_7 : GoodIn wsX5_proves wsX30 := goodIn_r _ [229] (by decide +kernel) (by decide +kernel)
theorem ggX5_proves_X5_firstTrial : GoodIn wsX5_proves wsX5_firstTrial := goodIn_app ggX5_proves_X5_firstTrial_h (goodIn_app (goodIn_app (goodIn_app (goodIn_app (goodIn_app ggX5_proves_X5_firstTrial_0 (goodIn_app ggX5_proves_X5_firstTrial_1 (goodIn_app ggX5_proves_X5_firstTrial_2 ggX5_proves_X5_firstTrial_3))) ggX5_proves_X5_firstTrial_4) ggX5_proves_X5_firstTrial_5) ggX5_proves_X5_firstTrial_6) ggX5_proves_X5_firstTrial_7)
set_option maxRecDepth 20000 in
theorem gX5_proves_X5_firstTrial : GoodIn wsX5_proves (wsV RX5 104 RX5 yX5_firstTrial wsX5_firstTrial) := goodIn_app (goodIn_of _ (by decide +kernel)) ggX5_proves_X5_firstTrial
set_option maxRecDepth 20000 in
theorem ggX5_proves_X9_at : GoodIn wsX5_proves wsX9_at := goodIn_r _ [27] (by decide +kernel) (by decide +kernel)
set_option maxRecDepth 20000 in
theorem gX5_proves_X9_at_n111 : GoodIn wsX5_proves (wsX9_at) := ggX5_proves_X9_at
set_option maxRecDepth 20000 in
theorem ggX5_proves_X5_goDeeper_h : GoodIn wsX5_proves [Cond.code yX5_goDeeper cX5_goDeeper 3 none] := goodIn_r _ [159] (by decide +kernel) (by decide +kernel)
set_option maxRecDepth 20000 in
theorem ggX5_proves_X5_goDeeper_0 : GoodIn wsX5_proves wsX5_goDeeper_r1 := goodIn_r _ [7, 6, 103, 32, 28, 29, 30, 15, 31, 33, 34, 35, 36, 37, 38, 39, 40, 41, 42, 43, 44, 45, 46, 47] (by decide +kernel) (by decide +kernel)
set_option maxRecDepth 20000 in
theorem ggX5_proves_X5_goDeeper_1 : GoodIn wsX5_proves wsX5_goDeeper_r2 := goodIn_r _ [48, 49, 50, 51, 52, 53, 54, 55, 56, 57, 58, 59, 60, 61, 62, 63, 64, 65, 66, 67, 25, 26, 27] (by decide +kernel) (by decide +kernel)
set_option maxRecDepth 20000 in
theorem ggX5_proves_X5_goDeeper_2 : GoodIn wsX5_proves wsX50 := goodIn_r _ [206, 207, 208, 209, 210, 211, 212, 213, 214, 215] (by decide +kernel) (by decide +kernel)
set_option maxRecDepth 20000 in
theorem ggX5_proves_X5_goDeeper_3 : GoodIn wsX5_proves wsX20 := goodIn_r _ [224, 225, 226, 227, 228] (by decide +kernel) (by decide +kernel)
set_option maxRecDepth 20000 in
theorem ggX5_proves_X5_goDeeper_4 : GoodIn wsX5_proves wsX30 := goodIn_r _ [229] (by decide +kernel) (by decide +kernel)
set_option maxRecDepth 20000 in
theorem ggX5_proves_X5_goDeeper_5 : GoodIn wsX5_proves wsX60 := goodIn_r _ [230, 231, 232, 233, 234] (by decide +kernel) (by decide +kernel)
theorem ggX5_proves_X5_goDeeper : GoodIn wsX5_proves wsX5_goDeeper := goodIn_app ggX5_proves_X5_goDeeper_h (goodIn_app (goodIn_app (goodIn_app (goodIn_app (goodIn_app ggX5_proves_X5_goDeeper_0 ggX5_proves_X5_goDeeper_1) ggX5_proves_X5_goDeeper_2) ggX5_proves_X5_goDeeper_3) ggX5_proves_X5_goDeeper_4) ggX5_proves_X5_goDeeper_5)
set_option maxRecDepth 20000 in
theorem gX5_proves_X5_goDeeper : GoodIn wsX5_proves (wsV RX5 121 RX5 yX5_goDeeper wsX5_goDeeper) := goodIn_app (goodIn_of _ (by decide +kernel)) ggX5_proves_X5_goDeeper
set_option maxRecDepth 20000 in
theorem ggX5_proves_X5_proves_h : GoodIn wsX5_proves [Cond.code yX5_proves cX5_proves 10 (some .boolean)] := goodIn_r _ [0] (by decide +kernel) (by decide +kernel)
set_option maxRecDepth 20000 in
theorem ggX5_proves_X5_proves_0 : GoodIn wsX5_proves wsX5_proves_r1 := goodIn_r _ [1, 2, 3, 4, 5, 6, 7, 8, 9, 10, 11, 12, 13, 14, 15, 16, 17, 18, 19, 20, 21, 22, 23, 24] (by decide +kernel) (by decide +kernel)
set_option maxRecDepth 20000 in
theorem ggX5_proves_X5_proves_1 : GoodIn wsX5_proves wsX5_proves_r2 := goodIn_r _ [25, 26, 27, 28, 29, 30, 31, 32, 33, 34, 35, 36, 37, 38, 39, 40, 41, 42, 43, 44, 45, 46, 47, 48] (by decide +kernel) (by decide +kernel)
set_option maxRecDepth 20000 in
theorem ggX5_proves_X5_proves_2 : GoodIn wsX5_proves wsX5_proves_r3 := goodIn_r _ [49, 50, 51, 52, 53, 54, 55, 56, 57, 58, 59, 60, 61, 62, 63, 64, 65, 66, 67, 68, 69, 70, 71, 72] (by decide +kernel) (by decide +kernel)
set_option maxRecDepth 20000 in
theorem ggX5_proves_X5_proves_3 : GoodIn wsX5_proves wsX5_proves_r4 := goodIn_r _ [73, 74, 75, 76, 77, 78, 79, 80, 81, 82, 83, 84, 85, 86, 87, 88, 89, 90, 91, 92, 93, 94, 95, 96] (by decide +kernel) (by decide +kernel)
set_option maxRecDepth 20000 in
theorem ggX5_proves_X5_proves_4 : GoodIn wsX5_proves wsX5_proves_r5 := goodIn_r _ [97, 98, 99, 100, 101, 102, 103, 104, 105, 106, 107, 108, 109, 110, 111, 112, 113, 114, 115, 116, 117, 118, 119, 120] (by decide +kernel) (by decide +kernel)
set_option maxRecDepth 20000 in
theorem ggX5_proves_X5_proves_5 : GoodIn wsX5_proves wsX5_proves_r6 := goodIn_r _ [121, 122, 123, 124, 125, 126, 127, 128, 129, 130, 131, 132, 133, 134, 135, 136, 137, 138, 139, 140, 141, 142, 143, 144] (by decide +kernel) (by decide +kernel)
set_option maxRecDepth 20000 in
theorem ggX5_proves_X5_proves_6 : GoodIn wsX5_proves wsX5_proves_r7 := goodIn_r _ [145, 146, 147, 148, 149, 150, 151, 152, 153, 154, 155, 156, 157, 158, 159, 160, 161, 162, 163, 164, 165, 166, 167, 168] (by decide +kernel) (by decide +kernel)
set_option maxRecDepth 20000 in
theorem ggX5_proves_X5_proves_7 : GoodIn wsX5_proves wsX5_proves_r8 := goodIn_r _ [169, 170, 171, 172, 173, 174, 175, 176, 177, 178, 179, 180, 181, 182, 183, 184, 185, 186, 187, 188, 189, 190, 191, 192] (by decide +kernel) (by decide +kernel)
set_option maxRecDepth 20000 in
theorem ggX5_proves_X5_proves_8 : GoodIn wsX5_proves wsX5_proves_r9 := goodIn_r _ [193, 194, 195, 196, 197, 198, 199, 200, 201, 202, 203, 204, 205] (by decide +kernel) (by decide +kernel)
set_option maxRecDepth 20000 in
theorem ggX5_proves_X5_proves_9 : GoodIn wsX5_proves wsX50 := goodIn_r _ [206, 207, 208, 209, 210, 211, 212, 213, 214, 215] (by decide +kernel) (by decide +kernel)
set_option maxRecDepth 20000 in
theorem ggX5_proves_X5_proves_10 : GoodIn wsX5_proves wsX40 := goodIn_r _ [216, 217, 218, 219, 220, 221, 222, 223] (by decide +kernel) (by decide +kernel)
set_option maxRecDepth 20000 in
theorem ggX5_proves_X5_proves_11 : GoodIn wsX5_proves wsX20 := goodIn_r _ [224, 225, 226, 227, 228] (by decide +kernel) (by decide +kernel)
set_option maxRecDepth 20000 in
theorem ggX5_proves_X5_proves_12 : GoodIn wsX5_proves wsX30 := goodIn_r _ [229] (by decide +kernel) (by decide +kernel)
set_option maxRecDepth 20000 in
theorem ggX5_proves_X5_proves_13 : GoodIn wsX5_proves wsX60 := goodIn_r _ [230, 231, 232, 233, 234] (by decide +kernel) (by decide +kernel)
set_option maxRecDepth 20000 in
theorem ggX5_proves_X5_proves_14 : GoodIn wsX5_proves wsX10 := goodIn_r _ [235, 236, 237, 238] (by decide +kernel) (by decide +kernel)
theorem ggX5_proves_X5_proves : GoodIn wsX5_proves wsX5_proves := goodIn_app ggX5_proves_X5_proves_h (goodIn_app (goodIn_app (goodIn_app (goodIn_app (goodIn_app (goodIn_app (goodIn_app ggX5_proves_X5_proves_0 (goodIn_app ggX5_proves_X5_proves_1 (goodIn_app ggX5_proves_X5_proves_2 (goodIn_app ggX5_proves_X5_proves_3 (goodIn_app ggX5_proves_X5_proves_4 (goodIn_app ggX5_proves_X5_proves_5 (goodIn_app ggX5_proves_X5_proves_6 (goodIn_app ggX5_proves_X5_proves_7 ggX5_proves_X5_proves_8)))))))) ggX5_proves_X5_proves_9) ggX5_proves_X5_proves_10) ggX5_proves_X5_proves_11) ggX5_proves_X5_proves_12) ggX5_proves_X5_proves_13) ggX5_proves_X5_proves_14)
set_option maxRecDepth 20000 in
theorem gX5_proves_X5_proves : GoodIn wsX5_proves (va_wsS RX5 84 yX5_proves wsX5_proves) := goodIn_app (goodIn_of _ (by decide +kernel)) ggX5_proves_X5_proves
set_option maxRecDepth 20000 in
theorem ggX5_proves_X2_cutTo : GoodIn wsX5_proves wsX2_cutTo := goodIn_r _ [165, 44, 43, 166, 105, 106, 37, 107, 45, 25, 26, 27, 167, 113, 114, 50, 115, 52, 57, 224, 225, 226, 227, 228, 229] (by decide +kernel) (by decide +kernel)
set_option maxRecDepth 20000 in
theorem gX5_proves_X2_cutTo : GoodIn wsX5_proves (wsV RX5 69 RX2 yX2_cutTo wsX2_cutTo) := goodIn_app (goodIn_of _ (by decide +kernel)) ggX5_proves_X2_cutTo
set_option maxRecDepth 20000 in
theorem ggX5_proves_X3_has : GoodIn wsX5_proves wsX3_has := goodIn_r _ [51, 52, 229] (by decide +kernel) (by decide +kernel)
set_option maxRecDepth 20000 in
theorem gX5_proves_X3_has : GoodIn wsX5_proves (wsV RX5 124 RX3 yX3_has wsX3_has) := goodIn_app (goodIn_of _ (by decide +kernel)) ggX5_proves_X3_has
set_option maxRecDepth 20000 in
theorem ggX5_proves_X3_copy : GoodIn wsX5_proves wsX3_copy := goodIn_r _ [94, 86, 87, 88, 50, 89, 52, 95, 96, 97, 98, 229] (by decide +kernel) (by decide +kernel)
set_option maxRecDepth 20000 in
theorem gX5_proves_X3_copy : GoodIn wsX5_proves (wsV RX5 125 RX3 yX3_copy wsX3_copy) := goodIn_app (goodIn_of _ (by decide +kernel)) ggX5_proves_X3_copy
set_option maxRecDepth 20000 in
theorem ggX5_proves_X5_conclude_h : GoodIn wsX5_proves [Cond.code yX5_conclude cX5_conclude 4 none] := goodIn_r _ [171] (by decide +kernel) (by decide +kernel)
set_option maxRecDepth 20000 in
theorem ggX5_proves_X5_conclude_0 : GoodIn wsX5_proves wsX5_conclude_r1 := goodIn_r _ [6, 8, 32, 33, 172, 173, 174, 37, 175, 46, 43, 176, 145, 146, 147, 47, 48, 49, 50, 51, 52, 39, 40, 41] (by decide +kernel) (by decide +kernel)
set_option maxRecDepth 20000 in
theorem ggX5_proves_X5_conclude_1 : GoodIn wsX5_proves wsX5_conclude_r2 := goodIn_r _ [42, 44, 45, 53, 54, 55, 56, 57, 58, 59, 60, 61, 177, 178, 179, 180, 86, 87, 88, 89, 95, 96, 97, 98] (by decide +kernel) (by decide +kernel)
set_option maxRecDepth 20000 in
theorem ggX5_proves_X5_conclude_2 : GoodIn wsX5_proves wsX5_conclude_r3 := goodIn_r _ [181, 182, 183, 184, 167, 113, 114, 115, 62, 63, 64, 65, 66, 67, 25, 26, 27] (by decide +kernel) (by decide +kernel)
set_option maxRecDepth 20000 in
theorem ggX5_proves_X5_conclude_3 : GoodIn wsX5_proves wsX50 := goodIn_r _ [206, 207, 208, 209, 210, 211, 212, 213, 214, 215] (by decide +kernel) (by decide +kernel)
set_option maxRecDepth 20000 in
theorem ggX5_proves_X5_conclude_4 : GoodIn wsX5_proves wsX20 := goodIn_r _ [224, 225, 226, 227, 228] (by decide +kernel) (by decide +kernel)
set_option maxRecDepth 20000 in
theorem ggX5_proves_X5_conclude_5 : GoodIn wsX5_proves wsX30 := goodIn_r _ [229] (by decide +kernel) (by decide +kernel)
set_option maxRecDepth 20000 in
theorem ggX5_proves_X5_conclude_6 : GoodIn wsX5_proves wsX60 := goodIn_r _ [230, 231, 232, 233, 234] (by decide +kernel) (by decide +kernel)
theorem ggX5_proves_X5_conclude : GoodIn wsX5_proves wsX5_conclude := goodIn_app ggX5_proves_X5_conclude_h (goodIn_app (goodIn_app (goodIn_app (goodIn_app (goodIn_app ggX5_proves_X5_conclude_0 (goodIn_app ggX5_proves_X5_conclude_1 ggX5_proves_X5_conclude_2)) ggX5_proves_X5_conclude_3) ggX5_proves_X5_conclude_4) ggX5_proves_X5_conclude_5) ggX5_proves_X5_conclude_6)
set_option maxRecDepth 20000 in
theorem gX5_proves_X5_conclude : GoodIn wsX5_proves (wsV RX5 129 RX5 yX5_conclude wsX5_conclude) := goodIn_app (goodIn_of _ (by decide +kernel)) ggX5_proves_X5_conclude
set_option maxRecDepth 20000 in
theorem ggX5_proves_X3_keepOnly : GoodIn wsX5_proves wsX3_keepOnly := goodIn_r _ [184, 86, 87, 88, 50, 89, 52, 95, 96, 97, 98, 229] (by decide +kernel) (by decide +kernel)
set_option maxRecDepth 20000 in
theorem gX5_proves_X3_keepOnly : GoodIn wsX5_proves (wsV RX5 133 RX3 yX3_keepOnly wsX3_keepOnly) := goodIn_app (goodIn_of _ (by decide +kernel)) ggX5_proves_X3_keepOnly
set_option maxRecDepth 20000 in
theorem ggX5_proves_X3_remove : GoodIn wsX5_proves wsX3_remove := goodIn_r _ [115, 52, 57, 229] (by decide +kernel) (by decide +kernel)
set_option maxRecDepth 20000 in
theorem gX5_proves_X3_remove : GoodIn wsX5_proves (wsV RX5 136 RX3 yX3_remove wsX3_remove) := goodIn_app (goodIn_of _ (by decide +kernel)) ggX5_proves_X3_remove
set_option maxRecDepth 20000 in
theorem ggX5_proves_X5_nextTrial_h : GoodIn wsX5_proves [Cond.code yX5_nextTrial cX5_nextTrial 3 (some .int)] := goodIn_r _ [155] (by decide +kernel) (by decide +kernel)
set_option maxRecDepth 20000 in
theorem ggX5_proves_X5_nextTrial_0 : GoodIn wsX5_proves wsX5_nextTrial_r1 := goodIn_r _ [2, 17, 10, 6, 4, 90, 48, 49, 50, 51, 52, 18, 19, 20, 21, 22, 23, 24, 144, 145, 146, 37, 147, 43] (by decide +kernel) (by decide +kernel)
set_option maxRecDepth 20000 in
theorem ggX5_proves_X5_nextTrial_1 : GoodIn wsX5_proves wsX5_nextTrial_r2 := goodIn_r _ [47] (by decide +kernel) (by decide +kernel)
set_option maxRecDepth 20000 in
theorem ggX5_proves_X5_nextTrial_2 : GoodIn wsX5_proves wsX50 := goodIn_r _ [206, 207, 208, 209, 210, 211, 212, 213, 214, 215] (by decide +kernel) (by decide +kernel)
set_option maxRecDepth 20000 in
theorem ggX5_proves_X5_nextTrial_3 : GoodIn wsX5_proves wsX40 := goodIn_r _ [216, 217, 218, 219, 220, 221, 222, 223] (by decide +kernel) (by decide +kernel)
set_option maxRecDepth 20000 in
theorem ggX5_proves_X5_nextTrial_4 : GoodIn wsX5_proves wsX30 := goodIn_r _ [229] (by decide +kernel) (by decide +kernel)
set_option maxRecDepth 20000 in
theorem ggX5_proves_X5_nextTrial_5 : GoodIn wsX5_proves wsX20 := goodIn_r _ [224, 225, 226, 227, 228] (by decide +kernel) (by decide +kernel)
theorem ggX5_proves_X5_nextTrial : GoodIn wsX5_proves wsX5_nextTrial := goodIn_app ggX5_proves_X5_nextTrial_h (goodIn_app (goodIn_app (goodIn_app (goodIn_app (goodIn_app ggX5_proves_X5_nextTrial_0 ggX5_proves_X5_nextTrial_1) ggX5_proves_X5_nextTrial_2) ggX5_proves_X5_nextTrial_3) ggX5_proves_X5_nextTrial_4) ggX5_proves_X5_nextTrial_5)
set_option maxRecDepth 20000 in
theorem gX5_proves_X5_nextTrial : GoodIn wsX5_proves (wsV RX5 139 RX5 yX5_nextTrial wsX5_nextTrial) := goodIn_app (goodIn_of _ (by decide +kernel)) ggX5_proves_X5_nextTrial
set_option maxRecDepth 20000 in
theorem ggX5_proves_X2_explain_h : GoodIn wsX5_proves [Cond.code yX2_explain cX2_explain 6 none] := goodIn_r _ [189] (by decide +kernel) (by decide +kernel)
set_option maxRecDepth 20000 in
theorem ggX5_proves_X2_explain_0 : GoodIn wsX5_proves wsX2_explain_r1 := goodIn_r _ [44, 46, 166, 105, 106, 37, 107, 45, 25, 26, 27, 47, 48, 49, 50, 51, 52, 167, 113, 114, 115, 57, 177, 178] (by decide +kernel) (by decide +kernel)
set_option maxRecDepth 20000 in
theorem ggX5_proves_X2_explain_1 : GoodIn wsX5_proves wsX2_explain_r2 := goodIn_r _ [179, 180, 86, 87, 88, 89, 95, 96, 97, 98] (by decide +kernel) (by decide +kernel)
set_option maxRecDepth 20000 in
theorem ggX5_proves_X2_explain_2 : GoodIn wsX5_proves wsX20 := goodIn_r _ [224, 225, 226, 227, 228] (by decide +kernel) (by decide +kernel)
set_option maxRecDepth 20000 in
theorem ggX5_proves_X2_explain_3 : GoodIn wsX5_proves wsX30 := goodIn_r _ [229] (by decide +kernel) (by decide +kernel)
theorem ggX5_proves_X2_explain : GoodIn wsX5_proves wsX2_explain := goodIn_app ggX5_proves_X2_explain_h (goodIn_app (goodIn_app (goodIn_app ggX5_proves_X2_explain_0 ggX5_proves_X2_explain_1) ggX5_proves_X2_explain_2) ggX5_proves_X2_explain_3)
set_option maxRecDepth 20000 in
theorem gX5_proves_X2_explain : GoodIn wsX5_proves (wsV RX5 142 RX2 yX2_explain wsX2_explain) := goodIn_app (goodIn_of _ (by decide +kernel)) ggX5_proves_X2_explain
set_option maxRecDepth 20000 in
theorem ggX5_proves_X1_add : GoodIn wsX5_proves wsX1_add := goodIn_r _ [193, 194, 195, 125, 196, 197, 198, 199, 200, 201, 92, 93, 50, 94, 86, 87, 88, 89, 52, 95, 96, 97, 98, 235, 236, 237, 238, 229] (by decide +kernel) (by decide +kernel)
set_option maxRecDepth 20000 in
theorem gX5_proves_X1_add : GoodIn wsX5_proves (wsV RX5 146 RX1 yX1_add wsX1_add) := goodIn_app (goodIn_of _ (by decide +kernel)) ggX5_proves_X1_add
set_option maxRecDepth 20000 in
theorem ggX5_proves_X5_meet_h : GoodIn wsX5_proves [Cond.code yX5_meet cX5_meet 7 none] := goodIn_r _ [205] (by decide +kernel) (by decide +kernel)
set_option maxRecDepth 20000 in
theorem ggX5_proves_X5_meet_0 : GoodIn wsX5_proves wsX5_meet_r1 := goodIn_r _ [2, 17, 9, 4, 5, 3, 6, 78, 90, 48, 49, 50, 51, 52, 144, 145, 146, 37, 147, 43, 47, 112, 113, 114] (by decide +kernel) (by decide +kernel)
set_option maxRecDepth 20000 in
theorem ggX5_proves_X5_meet_1 : GoodIn wsX5_proves wsX5_meet_r2 := goodIn_r _ [115, 57, 190, 191, 192, 123, 193, 194, 195, 125, 196, 197, 198, 199, 200, 201, 92, 93, 94, 86, 87, 88, 89, 95] (by decide +kernel) (by decide +kernel)
set_option maxRecDepth 20000 in
theorem ggX5_proves_X5_meet_2 : GoodIn wsX5_proves wsX5_meet_r3 := goodIn_r _ [96, 97, 98] (by decide +kernel) (by decide +kernel)
set_option maxRecDepth 20000 in
theorem ggX5_proves_X5_meet_3 : GoodIn wsX5_proves wsX50 := goodIn_r _ [206, 207, 208, 209, 210, 211, 212, 213, 214, 215] (by decide +kernel) (by decide +kernel)
set_option maxRecDepth 20000 in
theorem ggX5_proves_X5_meet_4 : GoodIn wsX5_proves wsX40 := goodIn_r _ [216, 217, 218, 219, 220, 221, 222, 223] (by decide +kernel) (by decide +kernel)
set_option maxRecDepth 20000 in
theorem ggX5_proves_X5_meet_5 : GoodIn wsX5_proves wsX30 := goodIn_r _ [229] (by decide +kernel) (by decide +kernel)
set_option maxRecDepth 20000 in
theorem ggX5_proves_X5_meet_6 : GoodIn wsX5_proves wsX20 := goodIn_r _ [224, 225, 226, 227, 228] (by decide +kernel) (by decide +kernel)
set_option maxRecDepth 20000 in
theorem ggX5_proves_X5_meet_7 : GoodIn wsX5_proves wsX10 := goodIn_r _ [235, 236, 237, 238] (by decide +kernel) (by decide +kernel)
theorem ggX5_proves_X5_meet : GoodIn wsX5_proves wsX5_meet := goodIn_app ggX5_proves_X5_meet_h (goodIn_app (goodIn_app (goodIn_app (goodIn_app (goodIn_app (goodIn_app ggX5_proves_X5_meet_0 (goodIn_app ggX5_proves_X5_meet_1 ggX5_proves_X5_meet_2)) ggX5_proves_X5_meet_3) ggX5_proves_X5_meet_4) ggX5_proves_X5_meet_5) ggX5_proves_X5_meet_6) ggX5_proves_X5_meet_7)
set_option maxRecDepth 20000 in
theorem gX5_proves_X5_meet : GoodIn wsX5_proves (wsV RX5 149 RX5 yX5_meet wsX5_meet) := goodIn_app (goodIn_of _ (by decide +kernel)) ggX5_proves_X5_meet
theorem dX5_proves_0 : decode cX5_proves 0 = .ok (.iload_n 1, 1) := by decide +kernel
theorem dX5_proves_1 : decode cX5_proves 1 = .ok (.ifCond .lt 12, 3) := by decide +kernel
theorem dX5_proves_4 : decode cX5_proves 4 = .ok (.iload_n 1, 1) := by decide +kernel
theorem dX5_proves_5 : decode cX5_proves 5 = .ok (.iconst 1, 1) := by decide +kernel
theorem dX5_proves_6 : decode cX5_proves 6 = .ok (.iadd, 1) := by decide +kernel
theorem dX5_proves_7 : decode cX5_proves 7 = .ok (.sipush 153, 3) := by decide +kernel
theorem dX5_proves_10 : decode cX5_proves 10 = .ok (.if_icmp .lt 5, 3) := by decide +kernel
theorem dX5_proves_13 : decode cX5_proves 13 = .ok (.iconst 0, 1) := by decide +kernel
theorem dX5_proves_14 : decode cX5_proves 14 = .ok (.ireturn, 1) := by decide +kernel
theorem dX5_proves_15 : decode cX5_proves 15 = .ok (.aload_n 0, 1) := by decide +kernel
theorem dX5_proves_16 : decode cX5_proves 16 = .ok (.iload_n 1, 1) := by decide +kernel
theorem dX5_proves_17 : decode cX5_proves 17 = .ok (.iload_n 2, 1) := by decide +kernel
theorem dX5_proves_18 : decode cX5_proves 18 = .ok (.invokevirtual 88, 3) := by decide +kernel
theorem dX5_proves_21 : decode cX5_proves 21 = .ok (.istore_n 3, 1) := by decide +kernel
theorem dX5_proves_22 : decode cX5_proves 22 = .ok (.aload_n 0, 1) := by decide +kernel
theorem dX5_proves_23 : decode cX5_proves 23 = .ok (.iload_n 1, 1) := by decide +kernel
theorem dX5_proves_24 : decode cX5_proves 24 = .ok (.iload_n 3, 1) := by decide +kernel
theorem dX5_proves_25 : decode cX5_proves 25 = .ok (.invokevirtual 92, 3) := by decide +kernel
theorem dX5_proves_28 : decode cX5_proves 28 = .ok (.ifCond .ne 12, 3) := by decide +kernel
theorem dX5_proves_31 : decode cX5_proves 31 = .ok (.aload_n 0, 1) := by decide +kernel
theorem dX5_proves_32 : decode cX5_proves 32 = .ok (.iload_n 1, 1) := by decide +kernel
theorem dX5_proves_33 : decode cX5_proves 33 = .ok (.iload_n 3, 1) := by decide +kernel
theorem dX5_proves_34 : decode cX5_proves 34 = .ok (.invokevirtual 95, 3) := by decide +kernel
theorem dX5_proves_37 : decode cX5_proves 37 = .ok (.ifCond .eq 5, 3) := by decide +kernel
theorem dX5_proves_40 : decode cX5_proves 40 = .ok (.iconst 0, 1) := by decide +kernel
theorem dX5_proves_41 : decode cX5_proves 41 = .ok (.ireturn, 1) := by decide +kernel
theorem dX5_proves_42 : decode cX5_proves 42 = .ok (.aload_n 0, 1) := by decide +kernel
theorem dX5_proves_43 : decode cX5_proves 43 = .ok (.iload_n 1, 1) := by decide +kernel
theorem dX5_proves_44 : decode cX5_proves 44 = .ok (.iload_n 3, 1) := by decide +kernel
theorem dX5_proves_45 : decode cX5_proves 45 = .ok (.invokevirtual 98, 3) := by decide +kernel
theorem dX5_proves_48 : decode cX5_proves 48 = .ok (.ifCond .ne 12, 3) := by decide +kernel
theorem dX5_proves_51 : decode cX5_proves 51 = .ok (.aload_n 0, 1) := by decide +kernel
theorem dX5_proves_52 : decode cX5_proves 52 = .ok (.iload_n 1, 1) := by decide +kernel
theorem dX5_proves_53 : decode cX5_proves 53 = .ok (.iload_n 3, 1) := by decide +kernel
theorem dX5_proves_54 : decode cX5_proves 54 = .ok (.invokevirtual 101, 3) := by decide +kernel
theorem dX5_proves_57 : decode cX5_proves 57 = .ok (.ifCond .eq 5, 3) := by decide +kernel
theorem dX5_proves_60 : decode cX5_proves 60 = .ok (.iconst 1, 1) := by decide +kernel
theorem dX5_proves_61 : decode cX5_proves 61 = .ok (.ireturn, 1) := by decide +kernel
theorem dX5_proves_62 : decode cX5_proves 62 = .ok (.aload_n 0, 1) := by decide +kernel
theorem dX5_proves_63 : decode cX5_proves 63 = .ok (.iload_n 1, 1) := by decide +kernel
theorem dX5_proves_64 : decode cX5_proves 64 = .ok (.iload_n 3, 1) := by decide +kernel
theorem dX5_proves_65 : decode cX5_proves 65 = .ok (.invokevirtual 104, 3) := by decide +kernel
theorem dX5_proves_68 : decode cX5_proves 68 = .ok (.istore 4, 2) := by decide +kernel
theorem dX5_proves_70 : decode cX5_proves 70 = .ok (.iconst 0, 1) := by decide +kernel
theorem dX5_proves_71 : decode cX5_proves 71 = .ok (.istore 5, 2) := by decide +kernel
theorem dX5_proves_73 : decode cX5_proves 73 = .ok (.iload 4, 2) := by decide +kernel
theorem dX5_proves_75 : decode cX5_proves 75 = .ok (.ifCond .lt 254, 3) := by decide +kernel
theorem dX5_proves_78 : decode cX5_proves 78 = .ok (.iload 5, 2) := by decide +kernel
theorem dX5_proves_80 : decode cX5_proves 80 = .ok (.ldc 107, 2) := by decide +kernel
theorem dX5_proves_82 : decode cX5_proves 82 = .ok (.if_icmp .ge 247, 3) := by decide +kernel
theorem dX5_proves_85 : decode cX5_proves 85 = .ok (.aload_n 0, 1) := by decide +kernel
theorem dX5_proves_86 : decode cX5_proves 86 = .ok (.getfield 24, 3) := by decide +kernel
theorem dX5_proves_89 : decode cX5_proves 89 = .ok (.getfield 108, 3) := by decide +kernel
theorem dX5_proves_92 : decode cX5_proves 92 = .ok (.iload 4, 2) := by decide +kernel
theorem dX5_proves_94 : decode cX5_proves 94 = .ok (.invokestatic 111, 3) := by decide +kernel
theorem dX5_proves_97 : decode cX5_proves 97 = .ok (.bipush 8, 2) := by decide +kernel
theorem dX5_proves_99 : decode cX5_proves 99 = .ok (.if_icmp .ne 7, 3) := by decide +kernel
theorem dX5_proves_102 : decode cX5_proves 102 = .ok (.iconst 1, 1) := by decide +kernel
theorem dX5_proves_103 : decode cX5_proves 103 = .ok (.goto 4, 3) := by decide +kernel
theorem dX5_proves_106 : decode cX5_proves 106 = .ok (.iconst 0, 1) := by decide +kernel
theorem dX5_proves_107 : decode cX5_proves 107 = .ok (.istore 6, 2) := by decide +kernel
theorem dX5_proves_109 : decode cX5_proves 109 = .ok (.aload_n 0, 1) := by decide +kernel
theorem dX5_proves_110 : decode cX5_proves 110 = .ok (.getfield 24, 3) := by decide +kernel
theorem dX5_proves_113 : decode cX5_proves 113 = .ok (.getfield 115, 3) := by decide +kernel
theorem dX5_proves_116 : decode cX5_proves 116 = .ok (.iload 4, 2) := by decide +kernel
theorem dX5_proves_118 : decode cX5_proves 118 = .ok (.invokestatic 111, 3) := by decide +kernel
theorem dX5_proves_121 : decode cX5_proves 121 = .ok (.istore 7, 2) := by decide +kernel
theorem dX5_proves_123 : decode cX5_proves 123 = .ok (.aload_n 0, 1) := by decide +kernel
theorem dX5_proves_124 : decode cX5_proves 124 = .ok (.getfield 24, 3) := by decide +kernel
theorem dX5_proves_127 : decode cX5_proves 127 = .ok (.getfield 118, 3) := by decide +kernel
theorem dX5_proves_130 : decode cX5_proves 130 = .ok (.iload 4, 2) := by decide +kernel
theorem dX5_proves_132 : decode cX5_proves 132 = .ok (.invokestatic 111, 3) := by decide +kernel
theorem dX5_proves_135 : decode cX5_proves 135 = .ok (.istore 8, 2) := by decide +kernel
theorem dX5_proves_137 : decode cX5_proves 137 = .ok (.aload_n 0, 1) := by decide +kernel
theorem dX5_proves_138 : decode cX5_proves 138 = .ok (.iload_n 1, 1) := by decide +kernel
theorem dX5_proves_139 : decode cX5_proves 139 = .ok (.iload 7, 2) := by decide +kernel
theorem dX5_proves_141 : decode cX5_proves 141 = .ok (.invokevirtual 121, 3) := by decide +kernel
theorem dX5_proves_144 : decode cX5_proves 144 = .ok (.aload_n 0, 1) := by decide +kernel
theorem dX5_proves_145 : decode cX5_proves 145 = .ok (.iload_n 1, 1) := by decide +kernel
theorem dX5_proves_146 : decode cX5_proves 146 = .ok (.iconst 1, 1) := by decide +kernel
theorem dX5_proves_147 : decode cX5_proves 147 = .ok (.iadd, 1) := by decide +kernel
theorem dX5_proves_148 : decode cX5_proves 148 = .ok (.iload 6, 2) := by decide +kernel
theorem dX5_proves_150 : decode cX5_proves 150 = .ok (.ifCond .eq 7, 3) := by decide +kernel
theorem dX5_proves_153 : decode cX5_proves 153 = .ok (.iload_n 3, 1) := by decide +kernel
theorem dX5_proves_154 : decode cX5_proves 154 = .ok (.goto 5, 3) := by decide +kernel
theorem dX5_proves_157 : decode cX5_proves 157 = .ok (.iload 8, 2) := by decide +kernel
theorem dX5_proves_159 : decode cX5_proves 159 = .ok (.invokestatic 84, 3) := by decide +kernel
theorem dX5_proves_162 : decode cX5_proves 162 = .ok (.istore 9, 2) := by decide +kernel
theorem dX5_proves_164 : decode cX5_proves 164 = .ok (.aload_n 0, 1) := by decide +kernel
theorem dX5_proves_165 : decode cX5_proves 165 = .ok (.getfield 30, 3) := by decide +kernel
theorem dX5_proves_168 : decode cX5_proves 168 = .ok (.aload_n 0, 1) := by decide +kernel
theorem dX5_proves_169 : decode cX5_proves 169 = .ok (.getfield 34, 3) := by decide +kernel
theorem dX5_proves_172 : decode cX5_proves 172 = .ok (.iload_n 1, 1) := by decide +kernel
theorem dX5_proves_173 : decode cX5_proves 173 = .ok (.iconst 1, 1) := by decide +kernel
theorem dX5_proves_174 : decode cX5_proves 174 = .ok (.iadd, 1) := by decide +kernel
theorem dX5_proves_175 : decode cX5_proves 175 = .ok (.iaload, 1) := by decide +kernel
theorem dX5_proves_176 : decode cX5_proves 176 = .ok (.invokevirtual 69, 3) := by decide +kernel
theorem dX5_proves_179 : decode cX5_proves 179 = .ok (.iload 9, 2) := by decide +kernel
theorem dX5_proves_181 : decode cX5_proves 181 = .ok (.ifCond .eq 44, 3) := by decide +kernel
theorem dX5_proves_184 : decode cX5_proves 184 = .ok (.iload 6, 2) := by decide +kernel
theorem dX5_proves_186 : decode cX5_proves 186 = .ok (.ifCond .eq 39, 3) := by decide +kernel
theorem dX5_proves_189 : decode cX5_proves 189 = .ok (.aload_n 0, 1) := by decide +kernel
theorem dX5_proves_190 : decode cX5_proves 190 = .ok (.getfield 43, 3) := by decide +kernel
theorem dX5_proves_193 : decode cX5_proves 193 = .ok (.iload_n 1, 1) := by decide +kernel
theorem dX5_proves_194 : decode cX5_proves 194 = .ok (.iconst 1, 1) := by decide +kernel
theorem dX5_proves_195 : decode cX5_proves 195 = .ok (.iadd, 1) := by decide +kernel
theorem dX5_proves_196 : decode cX5_proves 196 = .ok (.iload 7, 2) := by decide +kernel
theorem dX5_proves_198 : decode cX5_proves 198 = .ok (.invokevirtual 124, 3) := by decide +kernel
theorem dX5_proves_201 : decode cX5_proves 201 = .ok (.ifCond .ne 24, 3) := by decide +kernel
theorem dX5_proves_204 : decode cX5_proves 204 = .ok (.aload_n 0, 1) := by decide +kernel
theorem dX5_proves_205 : decode cX5_proves 205 = .ok (.getfield 43, 3) := by decide +kernel
theorem dX5_proves_208 : decode cX5_proves 208 = .ok (.iload_n 1, 1) := by decide +kernel
theorem dX5_proves_209 : decode cX5_proves 209 = .ok (.aload_n 0, 1) := by decide +kernel
theorem dX5_proves_210 : decode cX5_proves 210 = .ok (.getfield 43, 3) := by decide +kernel
theorem dX5_proves_213 : decode cX5_proves 213 = .ok (.iload_n 1, 1) := by decide +kernel
theorem dX5_proves_214 : decode cX5_proves 214 = .ok (.iconst 1, 1) := by decide +kernel
theorem dX5_proves_215 : decode cX5_proves 215 = .ok (.iadd, 1) := by decide +kernel
theorem dX5_proves_216 : decode cX5_proves 216 = .ok (.invokevirtual 125, 3) := by decide +kernel
theorem dX5_proves_219 : decode cX5_proves 219 = .ok (.iconst (-1), 1) := by decide +kernel
theorem dX5_proves_220 : decode cX5_proves 220 = .ok (.istore 4, 2) := by decide +kernel
theorem dX5_proves_222 : decode cX5_proves 222 = .ok (.goto 101, 3) := by decide +kernel
theorem dX5_proves_225 : decode cX5_proves 225 = .ok (.iload 9, 2) := by decide +kernel
theorem dX5_proves_227 : decode cX5_proves 227 = .ok (.ifCond .eq 42, 3) := by decide +kernel
theorem dX5_proves_230 : decode cX5_proves 230 = .ok (.aload_n 0, 1) := by decide +kernel
theorem dX5_proves_231 : decode cX5_proves 231 = .ok (.iload_n 1, 1) := by decide +kernel
theorem dX5_proves_232 : decode cX5_proves 232 = .ok (.iload 6, 2) := by decide +kernel
theorem dX5_proves_234 : decode cX5_proves 234 = .ok (.ifCond .eq 8, 3) := by decide +kernel
theorem dX5_proves_237 : decode cX5_proves 237 = .ok (.iload 8, 2) := by decide +kernel
theorem dX5_proves_239 : decode cX5_proves 239 = .ok (.goto 5, 3) := by decide +kernel
theorem dX5_proves_242 : decode cX5_proves 242 = .ok (.iload 4, 2) := by decide +kernel
theorem dX5_proves_244 : decode cX5_proves 244 = .ok (.iload 6, 2) := by decide +kernel
theorem dX5_proves_246 : decode cX5_proves 246 = .ok (.ifCond .eq 8, 3) := by decide +kernel
theorem dX5_proves_249 : decode cX5_proves 249 = .ok (.iload 4, 2) := by decide +kernel
theorem dX5_proves_251 : decode cX5_proves 251 = .ok (.goto 4, 3) := by decide +kernel
theorem dX5_proves_254 : decode cX5_proves 254 = .ok (.iconst 4, 1) := by decide +kernel
theorem dX5_proves_255 : decode cX5_proves 255 = .ok (.invokevirtual 129, 3) := by decide +kernel
theorem dX5_proves_258 : decode cX5_proves 258 = .ok (.aload_n 0, 1) := by decide +kernel
theorem dX5_proves_259 : decode cX5_proves 259 = .ok (.iload_n 1, 1) := by decide +kernel
theorem dX5_proves_260 : decode cX5_proves 260 = .ok (.iload_n 3, 1) := by decide +kernel
theorem dX5_proves_261 : decode cX5_proves 261 = .ok (.invokevirtual 104, 3) := by decide +kernel
theorem dX5_proves_264 : decode cX5_proves 264 = .ok (.istore 4, 2) := by decide +kernel
theorem dX5_proves_266 : decode cX5_proves 266 = .ok (.goto 57, 3) := by decide +kernel
theorem dX5_proves_269 : decode cX5_proves 269 = .ok (.iload 6, 2) := by decide +kernel
theorem dX5_proves_271 : decode cX5_proves 271 = .ok (.ifCond .eq 20, 3) := by decide +kernel
theorem dX5_proves_274 : decode cX5_proves 274 = .ok (.aload_n 0, 1) := by decide +kernel
theorem dX5_proves_275 : decode cX5_proves 275 = .ok (.getfield 50, 3) := by decide +kernel
theorem dX5_proves_278 : decode cX5_proves 278 = .ok (.iload_n 1, 1) := by decide +kernel
theorem dX5_proves_279 : decode cX5_proves 279 = .ok (.aload_n 0, 1) := by decide +kernel
theorem dX5_proves_280 : decode cX5_proves 280 = .ok (.getfield 50, 3) := by decide +kernel
theorem dX5_proves_283 : decode cX5_proves 283 = .ok (.iload_n 1, 1) := by decide +kernel
theorem dX5_proves_284 : decode cX5_proves 284 = .ok (.iconst 1, 1) := by decide +kernel
theorem dX5_proves_285 : decode cX5_proves 285 = .ok (.iadd, 1) := by decide +kernel
theorem dX5_proves_286 : decode cX5_proves 286 = .ok (.invokevirtual 125, 3) := by decide +kernel
theorem dX5_proves_289 : decode cX5_proves 289 = .ok (.iconst 0, 1) := by decide +kernel
theorem dX5_proves_290 : decode cX5_proves 290 = .ok (.ireturn, 1) := by decide +kernel
theorem dX5_proves_291 : decode cX5_proves 291 = .ok (.aload_n 0, 1) := by decide +kernel
theorem dX5_proves_292 : decode cX5_proves 292 = .ok (.getfield 50, 3) := by decide +kernel
theorem dX5_proves_295 : decode cX5_proves 295 = .ok (.iload_n 1, 1) := by decide +kernel
theorem dX5_proves_296 : decode cX5_proves 296 = .ok (.aload_n 0, 1) := by decide +kernel
theorem dX5_proves_297 : decode cX5_proves 297 = .ok (.getfield 50, 3) := by decide +kernel
theorem dX5_proves_300 : decode cX5_proves 300 = .ok (.iload_n 1, 1) := by decide +kernel
theorem dX5_proves_301 : decode cX5_proves 301 = .ok (.iconst 1, 1) := by decide +kernel
theorem dX5_proves_302 : decode cX5_proves 302 = .ok (.iadd, 1) := by decide +kernel
theorem dX5_proves_303 : decode cX5_proves 303 = .ok (.invokevirtual 133, 3) := by decide +kernel
theorem dX5_proves_306 : decode cX5_proves 306 = .ok (.aload_n 0, 1) := by decide +kernel
theorem dX5_proves_307 : decode cX5_proves 307 = .ok (.getfield 47, 3) := by decide +kernel
theorem dX5_proves_310 : decode cX5_proves 310 = .ok (.iload_n 1, 1) := by decide +kernel
theorem dX5_proves_311 : decode cX5_proves 311 = .ok (.iload 4, 2) := by decide +kernel
theorem dX5_proves_313 : decode cX5_proves 313 = .ok (.invokevirtual 136, 3) := by decide +kernel
theorem dX5_proves_316 : decode cX5_proves 316 = .ok (.aload_n 0, 1) := by decide +kernel
theorem dX5_proves_317 : decode cX5_proves 317 = .ok (.iload_n 1, 1) := by decide +kernel
theorem dX5_proves_318 : decode cX5_proves 318 = .ok (.invokevirtual 139, 3) := by decide +kernel
theorem dX5_proves_321 : decode cX5_proves 321 = .ok (.istore 4, 2) := by decide +kernel
theorem dX5_proves_323 : decode cX5_proves 323 = .ok (.iinc 5 1, 3) := by decide +kernel
theorem dX5_proves_326 : decode cX5_proves 326 = .ok (.goto (-253), 3) := by decide +kernel
theorem dX5_proves_329 : decode cX5_proves 329 = .ok (.iload 4, 2) := by decide +kernel
theorem dX5_proves_331 : decode cX5_proves 331 = .ok (.iconst (-1), 1) := by decide +kernel
theorem dX5_proves_332 : decode cX5_proves 332 = .ok (.if_icmp .ne 36, 3) := by decide +kernel
theorem dX5_proves_335 : decode cX5_proves 335 = .ok (.aload_n 0, 1) := by decide +kernel
theorem dX5_proves_336 : decode cX5_proves 336 = .ok (.getfield 30, 3) := by decide +kernel
theorem dX5_proves_339 : decode cX5_proves 339 = .ok (.aload_n 0, 1) := by decide +kernel
theorem dX5_proves_340 : decode cX5_proves 340 = .ok (.getfield 43, 3) := by decide +kernel
theorem dX5_proves_343 : decode cX5_proves 343 = .ok (.iload_n 1, 1) := by decide +kernel
theorem dX5_proves_344 : decode cX5_proves 344 = .ok (.aload_n 0, 1) := by decide +kernel
theorem dX5_proves_345 : decode cX5_proves 345 = .ok (.getfield 34, 3) := by decide +kernel
theorem dX5_proves_348 : decode cX5_proves 348 = .ok (.iload_n 1, 1) := by decide +kernel
theorem dX5_proves_349 : decode cX5_proves 349 = .ok (.iaload, 1) := by decide +kernel
theorem dX5_proves_350 : decode cX5_proves 350 = .ok (.invokevirtual 142, 3) := by decide +kernel
theorem dX5_proves_353 : decode cX5_proves 353 = .ok (.aload_n 0, 1) := by decide +kernel
theorem dX5_proves_354 : decode cX5_proves 354 = .ok (.getfield 63, 3) := by decide +kernel
theorem dX5_proves_357 : decode cX5_proves 357 = .ok (.aload_n 0, 1) := by decide +kernel
theorem dX5_proves_358 : decode cX5_proves 358 = .ok (.getfield 43, 3) := by decide +kernel
theorem dX5_proves_361 : decode cX5_proves 361 = .ok (.iload_n 1, 1) := by decide +kernel
theorem dX5_proves_362 : decode cX5_proves 362 = .ok (.iload_n 3, 1) := by decide +kernel
theorem dX5_proves_363 : decode cX5_proves 363 = .ok (.invokevirtual 146, 3) := by decide +kernel
theorem dX5_proves_366 : decode cX5_proves 366 = .ok (.iconst 1, 1) := by decide +kernel
theorem dX5_proves_367 : decode cX5_proves 367 = .ok (.ireturn, 1) := by decide +kernel
theorem dX5_proves_368 : decode cX5_proves 368 = .ok (.aload_n 0, 1) := by decide +kernel
theorem dX5_proves_369 : decode cX5_proves 369 = .ok (.iload_n 1, 1) := by decide +kernel
theorem dX5_proves_370 : decode cX5_proves 370 = .ok (.invokevirtual 149, 3) := by decide +kernel
theorem dX5_proves_373 : decode cX5_proves 373 = .ok (.iconst 0, 1) := by decide +kernel
theorem dX5_proves_374 : decode cX5_proves 374 = .ok (.ireturn, 1) := by decide +kernel
set_option maxRecDepth 20000 in
theorem ggX5_goDeeper_X5_assume_h : GoodIn wsX5_goDeeper [Cond.code yX5_assume cX5_assume 3 none] := goodIn_r _ [9] (by decide +kernel) (by decide +kernel)
set_option maxRecDepth 20000 in
theorem ggX5_goDeeper_X5_assume_0 : GoodIn wsX5_goDeeper wsX5_assume_r1 := goodIn_r _ [2, 4, 10, 11, 12, 13, 14, 15, 16, 17, 18, 19, 20, 21, 22, 23, 24, 25, 26, 27, 28, 29, 30, 31] (by decide +kernel) (by decide +kernel)
set_option maxRecDepth 20000 in
theorem ggX5_goDeeper_X5_assume_1 : GoodIn wsX5_goDeeper wsX5_assume_r2 := goodIn_r _ [32, 33, 34, 35, 36, 37, 38, 39, 40, 41, 42, 43, 44, 45, 46, 47] (by decide +kernel) (by decide +kernel)
set_option maxRecDepth 20000 in
theorem ggX5_goDeeper_X5_assume_2 : GoodIn wsX5_goDeeper wsX50 := goodIn_r _ [48, 49, 50, 51, 52, 53, 54, 55, 56, 57] (by decide +kernel) (by decide +kernel)
set_option maxRecDepth 20000 in
theorem ggX5_goDeeper_X5_assume_3 : GoodIn wsX5_goDeeper wsX20 := goodIn_r _ [58, 59, 60, 61, 62] (by decide +kernel) (by decide +kernel)
set_option maxRecDepth 20000 in
theorem ggX5_goDeeper_X5_assume_4 : GoodIn wsX5_goDeeper wsX30 := goodIn_r _ [63] (by decide +kernel) (by decide +kernel)
set_option maxRecDepth 20000 in
theorem ggX5_goDeeper_X5_assume_5 : GoodIn wsX5_goDeeper wsX60 := goodIn_r _ [64, 65, 66, 67, 68] (by decide +kernel) (by decide +kernel)
theorem ggX5_goDeeper_X5_assume : GoodIn wsX5_goDeeper wsX5_assume := goodIn_app ggX5_goDeeper_X5_assume_h (goodIn_app (goodIn_app (goodIn_app (goodIn_app (goodIn_app ggX5_goDeeper_X5_assume_0 ggX5_goDeeper_X5_assume_1) ggX5_goDeeper_X5_assume_2) ggX5_goDeeper_X5_assume_3) ggX5_goDeeper_X5_assume_4) ggX5_goDeeper_X5_assume_5)
set_option maxRecDepth 20000 in
theorem gX5_goDeeper_X5_assume : GoodIn wsX5_goDeeper (wsV RX5 72 RX5 yX5_assume wsX5_assume) := goodIn_app (goodIn_of _ (by decide +kernel)) ggX5_goDeeper_X5_assume
theorem dX5_goDeeper_0 : decode cX5_goDeeper 0 = .ok (.iload_n 1, 1) := by decide +kernel
theorem dX5_goDeeper_1 : decode cX5_goDeeper 1 = .ok (.ifCond .lt 49, 3) := by decide +kernel
theorem dX5_goDeeper_4 : decode cX5_goDeeper 4 = .ok (.iload_n 1, 1) := by decide +kernel
theorem dX5_goDeeper_5 : decode cX5_goDeeper 5 = .ok (.iconst 1, 1) := by decide +kernel
theorem dX5_goDeeper_6 : decode cX5_goDeeper 6 = .ok (.iadd, 1) := by decide +kernel
theorem dX5_goDeeper_7 : decode cX5_goDeeper 7 = .ok (.sipush 153, 3) := by decide +kernel
theorem dX5_goDeeper_10 : decode cX5_goDeeper 10 = .ok (.if_icmp .ge 40, 3) := by decide +kernel
theorem dX5_goDeeper_13 : decode cX5_goDeeper 13 = .ok (.aload_n 0, 1) := by decide +kernel
theorem dX5_goDeeper_14 : decode cX5_goDeeper 14 = .ok (.getfield 34, 3) := by decide +kernel
theorem dX5_goDeeper_17 : decode cX5_goDeeper 17 = .ok (.iload_n 1, 1) := by decide +kernel
theorem dX5_goDeeper_18 : decode cX5_goDeeper 18 = .ok (.iconst 1, 1) := by decide +kernel
theorem dX5_goDeeper_19 : decode cX5_goDeeper 19 = .ok (.iadd, 1) := by decide +kernel
theorem dX5_goDeeper_20 : decode cX5_goDeeper 20 = .ok (.aload_n 0, 1) := by decide +kernel
theorem dX5_goDeeper_21 : decode cX5_goDeeper 21 = .ok (.getfield 30, 3) := by decide +kernel
theorem dX5_goDeeper_24 : decode cX5_goDeeper 24 = .ok (.getfield 152, 3) := by decide +kernel
theorem dX5_goDeeper_27 : decode cX5_goDeeper 27 = .ok (.iastore, 1) := by decide +kernel
theorem dX5_goDeeper_28 : decode cX5_goDeeper 28 = .ok (.aload_n 0, 1) := by decide +kernel
theorem dX5_goDeeper_29 : decode cX5_goDeeper 29 = .ok (.getfield 53, 3) := by decide +kernel
theorem dX5_goDeeper_32 : decode cX5_goDeeper 32 = .ok (.iload_n 1, 1) := by decide +kernel
theorem dX5_goDeeper_33 : decode cX5_goDeeper 33 = .ok (.iconst 1, 1) := by decide +kernel
theorem dX5_goDeeper_34 : decode cX5_goDeeper 34 = .ok (.iadd, 1) := by decide +kernel
theorem dX5_goDeeper_35 : decode cX5_goDeeper 35 = .ok (.aload_n 0, 1) := by decide +kernel
theorem dX5_goDeeper_36 : decode cX5_goDeeper 36 = .ok (.getfield 53, 3) := by decide +kernel
theorem dX5_goDeeper_39 : decode cX5_goDeeper 39 = .ok (.iload_n 1, 1) := by decide +kernel
theorem dX5_goDeeper_40 : decode cX5_goDeeper 40 = .ok (.iaload, 1) := by decide +kernel
theorem dX5_goDeeper_41 : decode cX5_goDeeper 41 = .ok (.iastore, 1) := by decide +kernel
theorem dX5_goDeeper_42 : decode cX5_goDeeper 42 = .ok (.aload_n 0, 1) := by decide +kernel
theorem dX5_goDeeper_43 : decode cX5_goDeeper 43 = .ok (.iload_n 1, 1) := by decide +kernel
theorem dX5_goDeeper_44 : decode cX5_goDeeper 44 = .ok (.iconst 1, 1) := by decide +kernel
theorem dX5_goDeeper_45 : decode cX5_goDeeper 45 = .ok (.iadd, 1) := by decide +kernel
theorem dX5_goDeeper_46 : decode cX5_goDeeper 46 = .ok (.iload_n 2, 1) := by decide +kernel
theorem dX5_goDeeper_47 : decode cX5_goDeeper 47 = .ok (.invokevirtual 72, 3) := by decide +kernel
theorem dX5_goDeeper_50 : decode cX5_goDeeper 50 = .ok (.return_, 1) := by decide +kernel
set_option maxRecDepth 20000 in
theorem ggX5_assume_X2_assume : GoodIn wsX5_assume wsX2_assume := goodIn_r _ [8, 9, 10, 11, 7, 12, 13, 14, 15, 16, 17, 18, 19, 20, 21, 22, 23, 24, 25, 26, 27, 28, 29, 30, 31, 51, 52, 53, 54, 55, 56] (by decide +kernel) (by decide +kernel)
set_option maxRecDepth 20000 in
theorem gX5_assume_X2_assume : GoodIn wsX5_assume (wsV RX5 156 RX2 yX2_assume wsX2_assume) := goodIn_app (goodIn_of _ (by decide +kernel)) ggX5_assume_X2_assume
set_option maxRecDepth 20000 in
theorem ggX5_assume_X6_singles : GoodIn wsX5_assume wsX6_singles := goodIn_r _ [36, 37, 38, 39, 40, 57, 58, 59, 60, 61] (by decide +kernel) (by decide +kernel)
set_option maxRecDepth 20000 in
theorem gX5_assume_X6_singles : GoodIn wsX5_assume (wsV RX5 158 RX6 yX6_singles wsX6_singles) := goodIn_app (goodIn_of _ (by decide +kernel)) ggX5_assume_X6_singles
theorem dX5_assume_0 : decode cX5_assume 0 = .ok (.aload_n 0, 1) := by decide +kernel
theorem dX5_assume_1 : decode cX5_assume 1 = .ok (.getfield 30, 3) := by decide +kernel
theorem dX5_assume_4 : decode cX5_assume 4 = .ok (.iload_n 2, 1) := by decide +kernel
theorem dX5_assume_5 : decode cX5_assume 5 = .ok (.invokevirtual 156, 3) := by decide +kernel
theorem dX5_assume_8 : decode cX5_assume 8 = .ok (.iload_n 1, 1) := by decide +kernel
theorem dX5_assume_9 : decode cX5_assume 9 = .ok (.ifCond .lt 27, 3) := by decide +kernel
theorem dX5_assume_12 : decode cX5_assume 12 = .ok (.iload_n 1, 1) := by decide +kernel
theorem dX5_assume_13 : decode cX5_assume 13 = .ok (.sipush 153, 3) := by decide +kernel
theorem dX5_assume_16 : decode cX5_assume 16 = .ok (.if_icmp .ge 20, 3) := by decide +kernel
theorem dX5_assume_19 : decode cX5_assume 19 = .ok (.aload_n 0, 1) := by decide +kernel
theorem dX5_assume_20 : decode cX5_assume 20 = .ok (.getfield 53, 3) := by decide +kernel
theorem dX5_assume_23 : decode cX5_assume 23 = .ok (.iload_n 1, 1) := by decide +kernel
theorem dX5_assume_24 : decode cX5_assume 24 = .ok (.dup2, 1) := by decide +kernel
theorem dX5_assume_25 : decode cX5_assume 25 = .ok (.iaload, 1) := by decide +kernel
theorem dX5_assume_26 : decode cX5_assume 26 = .ok (.aload_n 0, 1) := by decide +kernel
theorem dX5_assume_27 : decode cX5_assume 27 = .ok (.getfield 14, 3) := by decide +kernel
theorem dX5_assume_30 : decode cX5_assume 30 = .ok (.iload_n 2, 1) := by decide +kernel
theorem dX5_assume_31 : decode cX5_assume 31 = .ok (.invokevirtual 158, 3) := by decide +kernel
theorem dX5_assume_34 : decode cX5_assume 34 = .ok (.iand, 1) := by decide +kernel
theorem dX5_assume_35 : decode cX5_assume 35 = .ok (.iastore, 1) := by decide +kernel
theorem dX5_assume_36 : decode cX5_assume 36 = .ok (.return_, 1) := by decide +kernel
set_option maxRecDepth 20000 in
theorem ggX5_conclude_X2_conclude_h : GoodIn wsX5_conclude [Cond.code yX2_conclude cX2_conclude 5 none] := goodIn_r _ [9] (by decide +kernel) (by decide +kernel)
set_option maxRecDepth 20000 in
theorem ggX5_conclude_X2_conclude_0 : GoodIn wsX5_conclude wsX2_conclude_r1 := goodIn_r _ [10, 11, 12, 13, 14, 8, 15, 16, 17, 18, 19, 20, 21, 22, 23, 24, 25, 26, 27, 28, 29, 30, 31, 32] (by decide +kernel) (by decide +kernel)
set_option maxRecDepth 20000 in
theorem ggX5_conclude_X2_conclude_1 : GoodIn wsX5_conclude wsX2_conclude_r2 := goodIn_r _ [33, 34, 35, 36, 37, 38, 39, 40, 41, 42, 43, 44, 45, 46, 47, 48, 49, 50, 51, 52, 53, 54, 55, 56] (by decide +kernel) (by decide +kernel)
set_option maxRecDepth 20000 in
theorem ggX5_conclude_X2_conclude_2 : GoodIn wsX5_conclude wsX20 := goodIn_r _ [76, 77, 78, 79, 80] (by decide +kernel) (by decide +kernel)
set_option maxRecDepth 20000 in
theorem ggX5_conclude_X2_conclude_3 : GoodIn wsX5_conclude wsX30 := goodIn_r _ [81] (by decide +kernel) (by decide +kernel)
theorem ggX5_conclude_X2_conclude : GoodIn wsX5_conclude wsX2_conclude := goodIn_app ggX5_conclude_X2_conclude_h (goodIn_app (goodIn_app (goodIn_app ggX5_conclude_X2_conclude_0 ggX5_conclude_X2_conclude_1) ggX5_conclude_X2_conclude_2) ggX5_conclude_X2_conclude_3)
set_option maxRecDepth 20000 in
theorem gX5_conclude_X2_conclude : GoodIn wsX5_conclude (wsV RX5 160 RX2 yX2_conclude wsX2_conclude) := goodIn_app (goodIn_of _ (by decide +kernel)) ggX5_conclude_X2_conclude
set_option maxRecDepth 20000 in
theorem ggX5_conclude_X6_singles : GoodIn wsX5_conclude wsX6_singles := goodIn_r _ [61, 62, 63, 64, 65, 82, 83, 84, 85, 86] (by decide +kernel) (by decide +kernel)
set_option maxRecDepth 20000 in
theorem gX5_conclude_X6_singles : GoodIn wsX5_conclude (wsV RX5 158 RX6 yX6_singles wsX6_singles) := goodIn_app (goodIn_of _ (by decide +kernel)) ggX5_conclude_X6_singles
theorem dX5_conclude_0 : decode cX5_conclude 0 = .ok (.aload_n 0, 1) := by decide +kernel
theorem dX5_conclude_1 : decode cX5_conclude 1 = .ok (.getfield 30, 3) := by decide +kernel
theorem dX5_conclude_4 : decode cX5_conclude 4 = .ok (.iload_n 2, 1) := by decide +kernel
theorem dX5_conclude_5 : decode cX5_conclude 5 = .ok (.aload_n 0, 1) := by decide +kernel
theorem dX5_conclude_6 : decode cX5_conclude 6 = .ok (.getfield 43, 3) := by decide +kernel
theorem dX5_conclude_9 : decode cX5_conclude 9 = .ok (.iload_n 1, 1) := by decide +kernel
theorem dX5_conclude_10 : decode cX5_conclude 10 = .ok (.iconst 1, 1) := by decide +kernel
theorem dX5_conclude_11 : decode cX5_conclude 11 = .ok (.iadd, 1) := by decide +kernel
theorem dX5_conclude_12 : decode cX5_conclude 12 = .ok (.iload_n 3, 1) := by decide +kernel
theorem dX5_conclude_13 : decode cX5_conclude 13 = .ok (.invokevirtual 160, 3) := by decide +kernel
theorem dX5_conclude_16 : decode cX5_conclude 16 = .ok (.iload_n 1, 1) := by decide +kernel
theorem dX5_conclude_17 : decode cX5_conclude 17 = .ok (.ifCond .lt 27, 3) := by decide +kernel
theorem dX5_conclude_20 : decode cX5_conclude 20 = .ok (.iload_n 1, 1) := by decide +kernel
theorem dX5_conclude_21 : decode cX5_conclude 21 = .ok (.sipush 153, 3) := by decide +kernel
theorem dX5_conclude_24 : decode cX5_conclude 24 = .ok (.if_icmp .ge 20, 3) := by decide +kernel
theorem dX5_conclude_27 : decode cX5_conclude 27 = .ok (.aload_n 0, 1) := by decide +kernel
theorem dX5_conclude_28 : decode cX5_conclude 28 = .ok (.getfield 53, 3) := by decide +kernel
theorem dX5_conclude_31 : decode cX5_conclude 31 = .ok (.iload_n 1, 1) := by decide +kernel
theorem dX5_conclude_32 : decode cX5_conclude 32 = .ok (.dup2, 1) := by decide +kernel
theorem dX5_conclude_33 : decode cX5_conclude 33 = .ok (.iaload, 1) := by decide +kernel
theorem dX5_conclude_34 : decode cX5_conclude 34 = .ok (.aload_n 0, 1) := by decide +kernel
theorem dX5_conclude_35 : decode cX5_conclude 35 = .ok (.getfield 14, 3) := by decide +kernel
theorem dX5_conclude_38 : decode cX5_conclude 38 = .ok (.iload_n 2, 1) := by decide +kernel
theorem dX5_conclude_39 : decode cX5_conclude 39 = .ok (.invokevirtual 158, 3) := by decide +kernel
theorem dX5_conclude_42 : decode cX5_conclude 42 = .ok (.iand, 1) := by decide +kernel
theorem dX5_conclude_43 : decode cX5_conclude 43 = .ok (.iastore, 1) := by decide +kernel
theorem dX5_conclude_44 : decode cX5_conclude 44 = .ok (.return_, 1) := by decide +kernel
set_option maxRecDepth 20000 in
theorem ggX5_openGoal_X4_isIf : GoodIn wsX5_openGoal wsX4_isIf := goodIn_r _ [9, 10, 11, 67, 68, 69, 70, 71, 72, 73, 74] (by decide +kernel) (by decide +kernel)
set_option maxRecDepth 20000 in
theorem gX5_openGoal_X4_isIf : GoodIn wsX5_openGoal (wsV RX5 164 RX4 yX4_isIf wsX4_isIf) := goodIn_app (goodIn_of _ (by decide +kernel)) ggX5_openGoal_X4_isIf
set_option maxRecDepth 20000 in
theorem ggX5_openGoal_X9_at : GoodIn wsX5_openGoal wsX9_at := goodIn_r _ [14] (by decide +kernel) (by decide +kernel)
set_option maxRecDepth 20000 in
theorem gX5_openGoal_X9_at_n111 : GoodIn wsX5_openGoal (wsX9_at) := ggX5_openGoal_X9_at
set_option maxRecDepth 20000 in
theorem ggX5_openGoal_X5_assume_h : GoodIn wsX5_openGoal [Cond.code yX5_assume cX5_assume 3 none] := goodIn_r _ [19] (by decide +kernel) (by decide +kernel)
set_option maxRecDepth 20000 in
theorem ggX5_openGoal_X5_assume_0 : GoodIn wsX5_openGoal wsX5_assume_r1 := goodIn_r _ [20, 21, 22, 23, 24, 25, 26, 27, 28, 29, 30, 31, 32, 33, 34, 35, 36, 37, 38, 39, 40, 41, 42, 43] (by decide +kernel) (by decide +kernel)
set_option maxRecDepth 20000 in
theorem ggX5_openGoal_X5_assume_1 : GoodIn wsX5_openGoal wsX5_assume_r2 := goodIn_r _ [44, 45, 46, 47, 48, 49, 50, 51, 52, 53, 54, 55, 56, 12, 13, 14] (by decide +kernel) (by decide +kernel)
set_option maxRecDepth 20000 in
theorem ggX5_openGoal_X5_assume_2 : GoodIn wsX5_openGoal wsX50 := goodIn_r _ [57, 58, 59, 60, 61, 62, 63, 64, 65, 66] (by decide +kernel) (by decide +kernel)
set_option maxRecDepth 20000 in
theorem ggX5_openGoal_X5_assume_3 : GoodIn wsX5_openGoal wsX20 := goodIn_r _ [75, 76, 77, 78, 79] (by decide +kernel) (by decide +kernel)
set_option maxRecDepth 20000 in
theorem ggX5_openGoal_X5_assume_4 : GoodIn wsX5_openGoal wsX30 := goodIn_r _ [80] (by decide +kernel) (by decide +kernel)
set_option maxRecDepth 20000 in
theorem ggX5_openGoal_X5_assume_5 : GoodIn wsX5_openGoal wsX60 := goodIn_r _ [81, 82, 83, 84, 85] (by decide +kernel) (by decide +kernel)
theorem ggX5_openGoal_X5_assume : GoodIn wsX5_openGoal wsX5_assume := goodIn_app ggX5_openGoal_X5_assume_h (goodIn_app (goodIn_app (goodIn_app (goodIn_app (goodIn_app ggX5_openGoal_X5_assume_0 ggX5_openGoal_X5_assume_1) ggX5_openGoal_X5_assume_2) ggX5_openGoal_X5_assume_3) ggX5_openGoal_X5_assume_4) ggX5_openGoal_X5_assume_5)
set_option maxRecDepth 20000 in
theorem gX5_openGoal_X5_assume : GoodIn wsX5_openGoal (wsV RX5 72 RX5 yX5_assume wsX5_assume) := goodIn_app (goodIn_of _ (by decide +kernel)) ggX5_openGoal_X5_assume
theorem dX5_openGoal_0 : decode cX5_openGoal 0 = .ok (.iload_n 2, 1) := by decide +kernel
theorem dX5_openGoal_1 : decode cX5_openGoal 1 = .ok (.istore_n 3, 1) := by decide +kernel
theorem dX5_openGoal_2 : decode cX5_openGoal 2 = .ok (.iconst 0, 1) := by decide +kernel
theorem dX5_openGoal_3 : decode cX5_openGoal 3 = .ok (.istore 4, 2) := by decide +kernel
theorem dX5_openGoal_5 : decode cX5_openGoal 5 = .ok (.iload 4, 2) := by decide +kernel
theorem dX5_openGoal_7 : decode cX5_openGoal 7 = .ok (.aload_n 0, 1) := by decide +kernel
theorem dX5_openGoal_8 : decode cX5_openGoal 8 = .ok (.getfield 24, 3) := by decide +kernel
theorem dX5_openGoal_11 : decode cX5_openGoal 11 = .ok (.getfield 163, 3) := by decide +kernel
theorem dX5_openGoal_14 : decode cX5_openGoal 14 = .ok (.if_icmp .ge 48, 3) := by decide +kernel
theorem dX5_openGoal_17 : decode cX5_openGoal 17 = .ok (.aload_n 0, 1) := by decide +kernel
theorem dX5_openGoal_18 : decode cX5_openGoal 18 = .ok (.getfield 24, 3) := by decide +kernel
theorem dX5_openGoal_21 : decode cX5_openGoal 21 = .ok (.iload_n 3, 1) := by decide +kernel
theorem dX5_openGoal_22 : decode cX5_openGoal 22 = .ok (.invokevirtual 164, 3) := by decide +kernel
theorem dX5_openGoal_25 : decode cX5_openGoal 25 = .ok (.ifCond .eq 37, 3) := by decide +kernel
theorem dX5_openGoal_28 : decode cX5_openGoal 28 = .ok (.aload_n 0, 1) := by decide +kernel
theorem dX5_openGoal_29 : decode cX5_openGoal 29 = .ok (.iload_n 1, 1) := by decide +kernel
theorem dX5_openGoal_30 : decode cX5_openGoal 30 = .ok (.aload_n 0, 1) := by decide +kernel
theorem dX5_openGoal_31 : decode cX5_openGoal 31 = .ok (.getfield 24, 3) := by decide +kernel
theorem dX5_openGoal_34 : decode cX5_openGoal 34 = .ok (.getfield 115, 3) := by decide +kernel
theorem dX5_openGoal_37 : decode cX5_openGoal 37 = .ok (.iload_n 3, 1) := by decide +kernel
theorem dX5_openGoal_38 : decode cX5_openGoal 38 = .ok (.invokestatic 111, 3) := by decide +kernel
theorem dX5_openGoal_41 : decode cX5_openGoal 41 = .ok (.invokevirtual 72, 3) := by decide +kernel
theorem dX5_openGoal_44 : decode cX5_openGoal 44 = .ok (.aload_n 0, 1) := by decide +kernel
theorem dX5_openGoal_45 : decode cX5_openGoal 45 = .ok (.getfield 24, 3) := by decide +kernel
theorem dX5_openGoal_48 : decode cX5_openGoal 48 = .ok (.getfield 118, 3) := by decide +kernel
theorem dX5_openGoal_51 : decode cX5_openGoal 51 = .ok (.iload_n 3, 1) := by decide +kernel
theorem dX5_openGoal_52 : decode cX5_openGoal 52 = .ok (.invokestatic 111, 3) := by decide +kernel
theorem dX5_openGoal_55 : decode cX5_openGoal 55 = .ok (.istore_n 3, 1) := by decide +kernel
theorem dX5_openGoal_56 : decode cX5_openGoal 56 = .ok (.iinc 4 1, 3) := by decide +kernel
theorem dX5_openGoal_59 : decode cX5_openGoal 59 = .ok (.goto (-54), 3) := by decide +kernel
theorem dX5_openGoal_62 : decode cX5_openGoal 62 = .ok (.iload_n 3, 1) := by decide +kernel
theorem dX5_openGoal_63 : decode cX5_openGoal 63 = .ok (.ireturn, 1) := by decide +kernel
set_option maxRecDepth 20000 in
theorem ggX5_meetsSingle_X9_at : GoodIn wsX5_meetsSingle wsX9_at := goodIn_r _ [8] (by decide +kernel) (by decide +kernel)
set_option maxRecDepth 20000 in
theorem gX5_meetsSingle_X9_at_n111 : GoodIn wsX5_meetsSingle (wsX9_at) := ggX5_meetsSingle_X9_at
set_option maxRecDepth 20000 in
theorem ggX5_meetsSingle_X6_singles : GoodIn wsX5_meetsSingle wsX6_singles := goodIn_r _ [13, 14, 6, 7, 8, 44, 45, 46, 47, 48] (by decide +kernel) (by decide +kernel)
set_option maxRecDepth 20000 in
theorem gX5_meetsSingle_X6_singles : GoodIn wsX5_meetsSingle (wsV RX5 158 RX6 yX6_singles wsX6_singles) := goodIn_app (goodIn_of _ (by decide +kernel)) ggX5_meetsSingle_X6_singles
set_option maxRecDepth 20000 in
theorem ggX5_meetsSingle_X3_fill : GoodIn wsX5_meetsSingle wsX3_fill := goodIn_r _ [19, 20, 21, 49] (by decide +kernel) (by decide +kernel)
set_option maxRecDepth 20000 in
theorem gX5_meetsSingle_X3_fill : GoodIn wsX5_meetsSingle (wsV RX5 168 RX3 yX3_fill wsX3_fill) := goodIn_app (goodIn_of _ (by decide +kernel)) ggX5_meetsSingle_X3_fill
set_option maxRecDepth 20000 in
theorem ggX5_meetsSingle_X3_add : GoodIn wsX5_meetsSingle wsX3_add := goodIn_r _ [25, 20, 49] (by decide +kernel) (by decide +kernel)
set_option maxRecDepth 20000 in
theorem gX5_meetsSingle_X3_add : GoodIn wsX5_meetsSingle (wsV RX5 172 RX3 yX3_add wsX3_add) := goodIn_app (goodIn_of _ (by decide +kernel)) ggX5_meetsSingle_X3_add
theorem dX5_meetsSingle_0 : decode cX5_meetsSingle 0 = .ok (.aload_n 0, 1) := by decide +kernel
theorem dX5_meetsSingle_1 : decode cX5_meetsSingle 1 = .ok (.getfield 53, 3) := by decide +kernel
theorem dX5_meetsSingle_4 : decode cX5_meetsSingle 4 = .ok (.iload_n 1, 1) := by decide +kernel
theorem dX5_meetsSingle_5 : decode cX5_meetsSingle 5 = .ok (.invokestatic 111, 3) := by decide +kernel
theorem dX5_meetsSingle_8 : decode cX5_meetsSingle 8 = .ok (.aload_n 0, 1) := by decide +kernel
theorem dX5_meetsSingle_9 : decode cX5_meetsSingle 9 = .ok (.getfield 14, 3) := by decide +kernel
theorem dX5_meetsSingle_12 : decode cX5_meetsSingle 12 = .ok (.iload_n 2, 1) := by decide +kernel
theorem dX5_meetsSingle_13 : decode cX5_meetsSingle 13 = .ok (.invokevirtual 158, 3) := by decide +kernel
theorem dX5_meetsSingle_16 : decode cX5_meetsSingle 16 = .ok (.iconst (-1), 1) := by decide +kernel
theorem dX5_meetsSingle_17 : decode cX5_meetsSingle 17 = .ok (.ixor, 1) := by decide +kernel
theorem dX5_meetsSingle_18 : decode cX5_meetsSingle 18 = .ok (.iand, 1) := by decide +kernel
theorem dX5_meetsSingle_19 : decode cX5_meetsSingle 19 = .ok (.istore_n 3, 1) := by decide +kernel
theorem dX5_meetsSingle_20 : decode cX5_meetsSingle 20 = .ok (.iload_n 3, 1) := by decide +kernel
theorem dX5_meetsSingle_21 : decode cX5_meetsSingle 21 = .ok (.ifCond .ne 5, 3) := by decide +kernel
theorem dX5_meetsSingle_24 : decode cX5_meetsSingle 24 = .ok (.iconst 0, 1) := by decide +kernel
theorem dX5_meetsSingle_25 : decode cX5_meetsSingle 25 = .ok (.ireturn, 1) := by decide +kernel
theorem dX5_meetsSingle_26 : decode cX5_meetsSingle 26 = .ok (.iload_n 3, 1) := by decide +kernel
theorem dX5_meetsSingle_27 : decode cX5_meetsSingle 27 = .ok (.iload_n 3, 1) := by decide +kernel
theorem dX5_meetsSingle_28 : decode cX5_meetsSingle 28 = .ok (.ineg, 1) := by decide +kernel
theorem dX5_meetsSingle_29 : decode cX5_meetsSingle 29 = .ok (.iand, 1) := by decide +kernel
theorem dX5_meetsSingle_30 : decode cX5_meetsSingle 30 = .ok (.istore 4, 2) := by decide +kernel
theorem dX5_meetsSingle_32 : decode cX5_meetsSingle 32 = .ok (.aload_n 0, 1) := by decide +kernel
theorem dX5_meetsSingle_33 : decode cX5_meetsSingle 33 = .ok (.getfield 50, 3) := by decide +kernel
theorem dX5_meetsSingle_36 : decode cX5_meetsSingle 36 = .ok (.iload_n 1, 1) := by decide +kernel
theorem dX5_meetsSingle_37 : decode cX5_meetsSingle 37 = .ok (.iconst 0, 1) := by decide +kernel
theorem dX5_meetsSingle_38 : decode cX5_meetsSingle 38 = .ok (.invokevirtual 168, 3) := by decide +kernel
theorem dX5_meetsSingle_41 : decode cX5_meetsSingle 41 = .ok (.iconst 0, 1) := by decide +kernel
theorem dX5_meetsSingle_42 : decode cX5_meetsSingle 42 = .ok (.istore 5, 2) := by decide +kernel
theorem dX5_meetsSingle_44 : decode cX5_meetsSingle 44 = .ok (.iload 5, 2) := by decide +kernel
theorem dX5_meetsSingle_46 : decode cX5_meetsSingle 46 = .ok (.aload_n 0, 1) := by decide +kernel
theorem dX5_meetsSingle_47 : decode cX5_meetsSingle 47 = .ok (.getfield 24, 3) := by decide +kernel
theorem dX5_meetsSingle_50 : decode cX5_meetsSingle 50 = .ok (.getfield 163, 3) := by decide +kernel
theorem dX5_meetsSingle_53 : decode cX5_meetsSingle 53 = .ok (.if_icmp .ge 34, 3) := by decide +kernel
theorem dX5_meetsSingle_56 : decode cX5_meetsSingle 56 = .ok (.aload_n 0, 1) := by decide +kernel
theorem dX5_meetsSingle_57 : decode cX5_meetsSingle 57 = .ok (.getfield 14, 3) := by decide +kernel
theorem dX5_meetsSingle_60 : decode cX5_meetsSingle 60 = .ok (.iload 5, 2) := by decide +kernel
theorem dX5_meetsSingle_62 : decode cX5_meetsSingle 62 = .ok (.invokevirtual 158, 3) := by decide +kernel
theorem dX5_meetsSingle_65 : decode cX5_meetsSingle 65 = .ok (.iload 4, 2) := by decide +kernel
theorem dX5_meetsSingle_67 : decode cX5_meetsSingle 67 = .ok (.iand, 1) := by decide +kernel
theorem dX5_meetsSingle_68 : decode cX5_meetsSingle 68 = .ok (.ifCond .eq 13, 3) := by decide +kernel
theorem dX5_meetsSingle_71 : decode cX5_meetsSingle 71 = .ok (.aload_n 0, 1) := by decide +kernel
theorem dX5_meetsSingle_72 : decode cX5_meetsSingle 72 = .ok (.getfield 50, 3) := by decide +kernel
theorem dX5_meetsSingle_75 : decode cX5_meetsSingle 75 = .ok (.iload_n 1, 1) := by decide +kernel
theorem dX5_meetsSingle_76 : decode cX5_meetsSingle 76 = .ok (.iload 5, 2) := by decide +kernel
theorem dX5_meetsSingle_78 : decode cX5_meetsSingle 78 = .ok (.invokevirtual 172, 3) := by decide +kernel
theorem dX5_meetsSingle_81 : decode cX5_meetsSingle 81 = .ok (.iinc 5 1, 3) := by decide +kernel
theorem dX5_meetsSingle_84 : decode cX5_meetsSingle 84 = .ok (.goto (-40), 3) := by decide +kernel
theorem dX5_meetsSingle_87 : decode cX5_meetsSingle 87 = .ok (.iconst 1, 1) := by decide +kernel
theorem dX5_meetsSingle_88 : decode cX5_meetsSingle 88 = .ok (.ireturn, 1) := by decide +kernel
set_option maxRecDepth 20000 in
theorem ggX5_hasMet_X3_isWithin : GoodIn wsX5_hasMet wsX3_isWithin := goodIn_r _ [11, 12, 13, 14, 15, 10, 16, 17, 49] (by decide +kernel) (by decide +kernel)
set_option maxRecDepth 20000 in
theorem gX5_hasMet_X3_isWithin : GoodIn wsX5_hasMet (wsV RX5 181 RX3 yX3_isWithin wsX3_isWithin) := goodIn_app (goodIn_of _ (by decide +kernel)) ggX5_hasMet_X3_isWithin
set_option maxRecDepth 20000 in
theorem ggX5_hasMet_X3_has : GoodIn wsX5_hasMet wsX3_has := goodIn_r _ [21, 17, 49] (by decide +kernel) (by decide +kernel)
set_option maxRecDepth 20000 in
theorem gX5_hasMet_X3_has : GoodIn wsX5_hasMet (wsV RX5 124 RX3 yX3_has wsX3_has) := goodIn_app (goodIn_of _ (by decide +kernel)) ggX5_hasMet_X3_has
set_option maxRecDepth 20000 in
theorem ggX5_hasMet_X3_copy : GoodIn wsX5_hasMet wsX3_copy := goodIn_r _ [25, 13, 14, 15, 10, 16, 17, 26, 27, 28, 29, 49] (by decide +kernel) (by decide +kernel)
set_option maxRecDepth 20000 in
theorem gX5_hasMet_X3_copy : GoodIn wsX5_hasMet (wsV RX5 125 RX3 yX3_copy wsX3_copy) := goodIn_app (goodIn_of _ (by decide +kernel)) ggX5_hasMet_X3_copy
theorem dX5_hasMet_0 : decode cX5_hasMet 0 = .ok (.iconst 0, 1) := by decide +kernel
theorem dX5_hasMet_1 : decode cX5_hasMet 1 = .ok (.istore_n 3, 1) := by decide +kernel
theorem dX5_hasMet_2 : decode cX5_hasMet 2 = .ok (.iload_n 3, 1) := by decide +kernel
theorem dX5_hasMet_3 : decode cX5_hasMet 3 = .ok (.aload_n 0, 1) := by decide +kernel
theorem dX5_hasMet_4 : decode cX5_hasMet 4 = .ok (.getfield 59, 3) := by decide +kernel
theorem dX5_hasMet_7 : decode cX5_hasMet 7 = .ok (.getfield 174, 3) := by decide +kernel
theorem dX5_hasMet_10 : decode cX5_hasMet 10 = .ok (.if_icmp .ge 64, 3) := by decide +kernel
theorem dX5_hasMet_13 : decode cX5_hasMet 13 = .ok (.aload_n 0, 1) := by decide +kernel
theorem dX5_hasMet_14 : decode cX5_hasMet 14 = .ok (.getfield 30, 3) := by decide +kernel
theorem dX5_hasMet_17 : decode cX5_hasMet 17 = .ok (.getfield 175, 3) := by decide +kernel
theorem dX5_hasMet_20 : decode cX5_hasMet 20 = .ok (.iconst 0, 1) := by decide +kernel
theorem dX5_hasMet_21 : decode cX5_hasMet 21 = .ok (.aload_n 0, 1) := by decide +kernel
theorem dX5_hasMet_22 : decode cX5_hasMet 22 = .ok (.getfield 59, 3) := by decide +kernel
theorem dX5_hasMet_25 : decode cX5_hasMet 25 = .ok (.getfield 178, 3) := by decide +kernel
theorem dX5_hasMet_28 : decode cX5_hasMet 28 = .ok (.iload_n 3, 1) := by decide +kernel
theorem dX5_hasMet_29 : decode cX5_hasMet 29 = .ok (.invokevirtual 181, 3) := by decide +kernel
theorem dX5_hasMet_32 : decode cX5_hasMet 32 = .ok (.ifCond .eq 36, 3) := by decide +kernel
theorem dX5_hasMet_35 : decode cX5_hasMet 35 = .ok (.aload_n 0, 1) := by decide +kernel
theorem dX5_hasMet_36 : decode cX5_hasMet 36 = .ok (.getfield 59, 3) := by decide +kernel
theorem dX5_hasMet_39 : decode cX5_hasMet 39 = .ok (.getfield 178, 3) := by decide +kernel
theorem dX5_hasMet_42 : decode cX5_hasMet 42 = .ok (.iload_n 3, 1) := by decide +kernel
theorem dX5_hasMet_43 : decode cX5_hasMet 43 = .ok (.iload_n 2, 1) := by decide +kernel
theorem dX5_hasMet_44 : decode cX5_hasMet 44 = .ok (.invokevirtual 124, 3) := by decide +kernel
theorem dX5_hasMet_47 : decode cX5_hasMet 47 = .ok (.ifCond .ne 21, 3) := by decide +kernel
theorem dX5_hasMet_50 : decode cX5_hasMet 50 = .ok (.aload_n 0, 1) := by decide +kernel
theorem dX5_hasMet_51 : decode cX5_hasMet 51 = .ok (.getfield 50, 3) := by decide +kernel
theorem dX5_hasMet_54 : decode cX5_hasMet 54 = .ok (.iload_n 1, 1) := by decide +kernel
theorem dX5_hasMet_55 : decode cX5_hasMet 55 = .ok (.aload_n 0, 1) := by decide +kernel
theorem dX5_hasMet_56 : decode cX5_hasMet 56 = .ok (.getfield 59, 3) := by decide +kernel
theorem dX5_hasMet_59 : decode cX5_hasMet 59 = .ok (.getfield 178, 3) := by decide +kernel
theorem dX5_hasMet_62 : decode cX5_hasMet 62 = .ok (.iload_n 3, 1) := by decide +kernel
theorem dX5_hasMet_63 : decode cX5_hasMet 63 = .ok (.invokevirtual 125, 3) := by decide +kernel
theorem dX5_hasMet_66 : decode cX5_hasMet 66 = .ok (.iconst 1, 1) := by decide +kernel
theorem dX5_hasMet_67 : decode cX5_hasMet 67 = .ok (.ireturn, 1) := by decide +kernel
theorem dX5_hasMet_68 : decode cX5_hasMet 68 = .ok (.iinc 3 1, 3) := by decide +kernel
theorem dX5_hasMet_71 : decode cX5_hasMet 71 = .ok (.goto (-69), 3) := by decide +kernel
theorem dX5_hasMet_74 : decode cX5_hasMet 74 = .ok (.iconst 0, 1) := by decide +kernel
theorem dX5_hasMet_75 : decode cX5_hasMet 75 = .ok (.ireturn, 1) := by decide +kernel
set_option maxRecDepth 20000 in
theorem ggX5_failsAtAllLast_X3_fill : GoodIn wsX5_failsAtAllLast wsX3_fill := goodIn_r _ [9, 10, 11, 59] (by decide +kernel) (by decide +kernel)
set_option maxRecDepth 20000 in
theorem gX5_failsAtAllLast_X3_fill : GoodIn wsX5_failsAtAllLast (wsV RX5 168 RX3 yX3_fill wsX3_fill) := goodIn_app (goodIn_of _ (by decide +kernel)) ggX5_failsAtAllLast_X3_fill
set_option maxRecDepth 20000 in
theorem ggX5_failsAtAllLast_X2_part : GoodIn wsX5_failsAtAllLast wsX2_part := goodIn_r _ [16, 17, 18, 19, 20, 54, 55, 56, 57, 58] (by decide +kernel) (by decide +kernel)
set_option maxRecDepth 20000 in
theorem gX5_failsAtAllLast_X2_part : GoodIn wsX5_failsAtAllLast (wsV RX5 185 RX2 yX2_part wsX2_part) := goodIn_app (goodIn_of _ (by decide +kernel)) ggX5_failsAtAllLast_X2_part
set_option maxRecDepth 20000 in
theorem ggX5_failsAtAllLast_X6_singles : GoodIn wsX5_failsAtAllLast wsX6_singles := goodIn_r _ [25, 26, 18, 19, 20, 60, 61, 62, 63, 64] (by decide +kernel) (by decide +kernel)
set_option maxRecDepth 20000 in
theorem gX5_failsAtAllLast_X6_singles : GoodIn wsX5_failsAtAllLast (wsV RX5 158 RX6 yX6_singles wsX6_singles) := goodIn_app (goodIn_of _ (by decide +kernel)) ggX5_failsAtAllLast_X6_singles
set_option maxRecDepth 20000 in
theorem ggX5_failsAtAllLast_X3_add : GoodIn wsX5_failsAtAllLast wsX3_add := goodIn_r _ [30, 10, 59] (by decide +kernel) (by decide +kernel)
set_option maxRecDepth 20000 in
theorem gX5_failsAtAllLast_X3_add : GoodIn wsX5_failsAtAllLast (wsV RX5 172 RX3 yX3_add wsX3_add) := goodIn_app (goodIn_of _ (by decide +kernel)) ggX5_failsAtAllLast_X3_add
set_option maxRecDepth 20000 in
theorem ggX5_failsAtAllLast_X3_has : GoodIn wsX5_failsAtAllLast wsX3_has := goodIn_r _ [34, 10, 59] (by decide +kernel) (by decide +kernel)
set_option maxRecDepth 20000 in
theorem gX5_failsAtAllLast_X3_has : GoodIn wsX5_failsAtAllLast (wsV RX5 124 RX3 yX3_has wsX3_has) := goodIn_app (goodIn_of _ (by decide +kernel)) ggX5_failsAtAllLast_X3_has
set_option maxRecDepth 20000 in
theorem ggX5_failsAtAllLast_X5_singlesWithout_h : GoodIn wsX5_failsAtAllLast [Cond.code yX5_singlesWithout cX5_singlesWithout 6 (some .int)] := goodIn_r _ [39] (by decide +kernel) (by decide +kernel)
set_option maxRecDepth 20000 in
theorem ggX5_failsAtAllLast_X5_singlesWithout_0 : GoodIn wsX5_failsAtAllLast wsX5_singlesWithout_r1 := goodIn_r _ [2, 3, 1, 4, 12, 13, 14, 15, 16, 17, 18, 19, 20, 31, 32, 33, 8, 34, 10, 21, 22, 23, 24, 25] (by decide +kernel) (by decide +kernel)
set_option maxRecDepth 20000 in
theorem ggX5_failsAtAllLast_X5_singlesWithout_1 : GoodIn wsX5_failsAtAllLast wsX5_singlesWithout_r2 := goodIn_r _ [26] (by decide +kernel) (by decide +kernel)
set_option maxRecDepth 20000 in
theorem ggX5_failsAtAllLast_X5_singlesWithout_2 : GoodIn wsX5_failsAtAllLast wsX50 := goodIn_r _ [44, 45, 46, 47, 48, 49, 50, 51, 52, 53] (by decide +kernel) (by decide +kernel)
set_option maxRecDepth 20000 in
theorem ggX5_failsAtAllLast_X5_singlesWithout_3 : GoodIn wsX5_failsAtAllLast wsX20 := goodIn_r _ [54, 55, 56, 57, 58] (by decide +kernel) (by decide +kernel)
set_option maxRecDepth 20000 in
theorem ggX5_failsAtAllLast_X5_singlesWithout_4 : GoodIn wsX5_failsAtAllLast wsX30 := goodIn_r _ [59] (by decide +kernel) (by decide +kernel)
set_option maxRecDepth 20000 in
theorem ggX5_failsAtAllLast_X5_singlesWithout_5 : GoodIn wsX5_failsAtAllLast wsX60 := goodIn_r _ [60, 61, 62, 63, 64] (by decide +kernel) (by decide +kernel)
theorem ggX5_failsAtAllLast_X5_singlesWithout : GoodIn wsX5_failsAtAllLast wsX5_singlesWithout := goodIn_app ggX5_failsAtAllLast_X5_singlesWithout_h (goodIn_app (goodIn_app (goodIn_app (goodIn_app (goodIn_app ggX5_failsAtAllLast_X5_singlesWithout_0 ggX5_failsAtAllLast_X5_singlesWithout_1) ggX5_failsAtAllLast_X5_singlesWithout_2) ggX5_failsAtAllLast_X5_singlesWithout_3) ggX5_failsAtAllLast_X5_singlesWithout_4) ggX5_failsAtAllLast_X5_singlesWithout_5)
set_option maxRecDepth 20000 in
theorem gX5_failsAtAllLast_X5_singlesWithout : GoodIn wsX5_failsAtAllLast (wsV RX5 188 RX5 yX5_singlesWithout wsX5_singlesWithout) := goodIn_app (goodIn_of _ (by decide +kernel)) ggX5_failsAtAllLast_X5_singlesWithout
set_option maxRecDepth 20000 in
theorem ggX5_failsAtAllLast_X3_remove : GoodIn wsX5_failsAtAllLast wsX3_remove := goodIn_r _ [43, 10, 11, 59] (by decide +kernel) (by decide +kernel)
set_option maxRecDepth 20000 in
theorem gX5_failsAtAllLast_X3_remove : GoodIn wsX5_failsAtAllLast (wsV RX5 136 RX3 yX3_remove wsX3_remove) := goodIn_app (goodIn_of _ (by decide +kernel)) ggX5_failsAtAllLast_X3_remove
theorem dX5_failsAtAllLast_0 : decode cX5_failsAtAllLast 0 = .ok (.iload_n 2, 1) := by decide +kernel
theorem dX5_failsAtAllLast_1 : decode cX5_failsAtAllLast 1 = .ok (.iconst 5, 1) := by decide +kernel
theorem dX5_failsAtAllLast_2 : decode cX5_failsAtAllLast 2 = .ok (.if_icmp .eq 5, 3) := by decide +kernel
theorem dX5_failsAtAllLast_5 : decode cX5_failsAtAllLast 5 = .ok (.iconst 0, 1) := by decide +kernel
theorem dX5_failsAtAllLast_6 : decode cX5_failsAtAllLast 6 = .ok (.ireturn, 1) := by decide +kernel
theorem dX5_failsAtAllLast_7 : decode cX5_failsAtAllLast 7 = .ok (.aload_n 0, 1) := by decide +kernel
theorem dX5_failsAtAllLast_8 : decode cX5_failsAtAllLast 8 = .ok (.getfield 43, 3) := by decide +kernel
theorem dX5_failsAtAllLast_11 : decode cX5_failsAtAllLast 11 = .ok (.iload_n 1, 1) := by decide +kernel
theorem dX5_failsAtAllLast_12 : decode cX5_failsAtAllLast 12 = .ok (.iconst 0, 1) := by decide +kernel
theorem dX5_failsAtAllLast_13 : decode cX5_failsAtAllLast 13 = .ok (.invokevirtual 168, 3) := by decide +kernel
theorem dX5_failsAtAllLast_16 : decode cX5_failsAtAllLast 16 = .ok (.iconst (-1), 1) := by decide +kernel
theorem dX5_failsAtAllLast_17 : decode cX5_failsAtAllLast 17 = .ok (.istore_n 3, 1) := by decide +kernel
theorem dX5_failsAtAllLast_18 : decode cX5_failsAtAllLast 18 = .ok (.iconst 0, 1) := by decide +kernel
theorem dX5_failsAtAllLast_19 : decode cX5_failsAtAllLast 19 = .ok (.istore 4, 2) := by decide +kernel
theorem dX5_failsAtAllLast_21 : decode cX5_failsAtAllLast 21 = .ok (.iload 4, 2) := by decide +kernel
theorem dX5_failsAtAllLast_23 : decode cX5_failsAtAllLast 23 = .ok (.aload_n 0, 1) := by decide +kernel
theorem dX5_failsAtAllLast_24 : decode cX5_failsAtAllLast 24 = .ok (.getfield 30, 3) := by decide +kernel
theorem dX5_failsAtAllLast_27 : decode cX5_failsAtAllLast 27 = .ok (.getfield 152, 3) := by decide +kernel
theorem dX5_failsAtAllLast_30 : decode cX5_failsAtAllLast 30 = .ok (.if_icmp .ge 62, 3) := by decide +kernel
theorem dX5_failsAtAllLast_33 : decode cX5_failsAtAllLast 33 = .ok (.iload_n 3, 1) := by decide +kernel
theorem dX5_failsAtAllLast_34 : decode cX5_failsAtAllLast 34 = .ok (.ifCond .eq 58, 3) := by decide +kernel
theorem dX5_failsAtAllLast_37 : decode cX5_failsAtAllLast 37 = .ok (.aload_n 0, 1) := by decide +kernel
theorem dX5_failsAtAllLast_38 : decode cX5_failsAtAllLast 38 = .ok (.getfield 30, 3) := by decide +kernel
theorem dX5_failsAtAllLast_41 : decode cX5_failsAtAllLast 41 = .ok (.iload 4, 2) := by decide +kernel
theorem dX5_failsAtAllLast_43 : decode cX5_failsAtAllLast 43 = .ok (.invokevirtual 185, 3) := by decide +kernel
theorem dX5_failsAtAllLast_46 : decode cX5_failsAtAllLast 46 = .ok (.istore 5, 2) := by decide +kernel
theorem dX5_failsAtAllLast_48 : decode cX5_failsAtAllLast 48 = .ok (.iload_n 3, 1) := by decide +kernel
theorem dX5_failsAtAllLast_49 : decode cX5_failsAtAllLast 49 = .ok (.aload_n 0, 1) := by decide +kernel
theorem dX5_failsAtAllLast_50 : decode cX5_failsAtAllLast 50 = .ok (.getfield 14, 3) := by decide +kernel
theorem dX5_failsAtAllLast_53 : decode cX5_failsAtAllLast 53 = .ok (.iload 5, 2) := by decide +kernel
theorem dX5_failsAtAllLast_55 : decode cX5_failsAtAllLast 55 = .ok (.invokevirtual 158, 3) := by decide +kernel
theorem dX5_failsAtAllLast_58 : decode cX5_failsAtAllLast 58 = .ok (.iconst (-1), 1) := by decide +kernel
theorem dX5_failsAtAllLast_59 : decode cX5_failsAtAllLast 59 = .ok (.ixor, 1) := by decide +kernel
theorem dX5_failsAtAllLast_60 : decode cX5_failsAtAllLast 60 = .ok (.iand, 1) := by decide +kernel
theorem dX5_failsAtAllLast_61 : decode cX5_failsAtAllLast 61 = .ok (.ifCond .eq 25, 3) := by decide +kernel
theorem dX5_failsAtAllLast_64 : decode cX5_failsAtAllLast 64 = .ok (.iload_n 3, 1) := by decide +kernel
theorem dX5_failsAtAllLast_65 : decode cX5_failsAtAllLast 65 = .ok (.aload_n 0, 1) := by decide +kernel
theorem dX5_failsAtAllLast_66 : decode cX5_failsAtAllLast 66 = .ok (.getfield 14, 3) := by decide +kernel
theorem dX5_failsAtAllLast_69 : decode cX5_failsAtAllLast 69 = .ok (.iload 5, 2) := by decide +kernel
theorem dX5_failsAtAllLast_71 : decode cX5_failsAtAllLast 71 = .ok (.invokevirtual 158, 3) := by decide +kernel
theorem dX5_failsAtAllLast_74 : decode cX5_failsAtAllLast 74 = .ok (.iand, 1) := by decide +kernel
theorem dX5_failsAtAllLast_75 : decode cX5_failsAtAllLast 75 = .ok (.istore_n 3, 1) := by decide +kernel
theorem dX5_failsAtAllLast_76 : decode cX5_failsAtAllLast 76 = .ok (.aload_n 0, 1) := by decide +kernel
theorem dX5_failsAtAllLast_77 : decode cX5_failsAtAllLast 77 = .ok (.getfield 43, 3) := by decide +kernel
theorem dX5_failsAtAllLast_80 : decode cX5_failsAtAllLast 80 = .ok (.iload_n 1, 1) := by decide +kernel
theorem dX5_failsAtAllLast_81 : decode cX5_failsAtAllLast 81 = .ok (.iload 5, 2) := by decide +kernel
theorem dX5_failsAtAllLast_83 : decode cX5_failsAtAllLast 83 = .ok (.invokevirtual 172, 3) := by decide +kernel
theorem dX5_failsAtAllLast_86 : decode cX5_failsAtAllLast 86 = .ok (.iinc 4 1, 3) := by decide +kernel
theorem dX5_failsAtAllLast_89 : decode cX5_failsAtAllLast 89 = .ok (.goto (-68), 3) := by decide +kernel
theorem dX5_failsAtAllLast_92 : decode cX5_failsAtAllLast 92 = .ok (.aload_n 0, 1) := by decide +kernel
theorem dX5_failsAtAllLast_93 : decode cX5_failsAtAllLast 93 = .ok (.getfield 30, 3) := by decide +kernel
theorem dX5_failsAtAllLast_96 : decode cX5_failsAtAllLast 96 = .ok (.getfield 152, 3) := by decide +kernel
theorem dX5_failsAtAllLast_99 : decode cX5_failsAtAllLast 99 = .ok (.iconst 1, 1) := by decide +kernel
theorem dX5_failsAtAllLast_100 : decode cX5_failsAtAllLast 100 = .ok (.isub, 1) := by decide +kernel
theorem dX5_failsAtAllLast_101 : decode cX5_failsAtAllLast 101 = .ok (.istore 4, 2) := by decide +kernel
theorem dX5_failsAtAllLast_103 : decode cX5_failsAtAllLast 103 = .ok (.iload 4, 2) := by decide +kernel
theorem dX5_failsAtAllLast_105 : decode cX5_failsAtAllLast 105 = .ok (.ifCond .lt 53, 3) := by decide +kernel
theorem dX5_failsAtAllLast_108 : decode cX5_failsAtAllLast 108 = .ok (.aload_n 0, 1) := by decide +kernel
theorem dX5_failsAtAllLast_109 : decode cX5_failsAtAllLast 109 = .ok (.getfield 30, 3) := by decide +kernel
theorem dX5_failsAtAllLast_112 : decode cX5_failsAtAllLast 112 = .ok (.iload 4, 2) := by decide +kernel
theorem dX5_failsAtAllLast_114 : decode cX5_failsAtAllLast 114 = .ok (.invokevirtual 185, 3) := by decide +kernel
theorem dX5_failsAtAllLast_117 : decode cX5_failsAtAllLast 117 = .ok (.istore 5, 2) := by decide +kernel
theorem dX5_failsAtAllLast_119 : decode cX5_failsAtAllLast 119 = .ok (.aload_n 0, 1) := by decide +kernel
theorem dX5_failsAtAllLast_120 : decode cX5_failsAtAllLast 120 = .ok (.getfield 43, 3) := by decide +kernel
theorem dX5_failsAtAllLast_123 : decode cX5_failsAtAllLast 123 = .ok (.iload_n 1, 1) := by decide +kernel
theorem dX5_failsAtAllLast_124 : decode cX5_failsAtAllLast 124 = .ok (.iload 5, 2) := by decide +kernel
theorem dX5_failsAtAllLast_126 : decode cX5_failsAtAllLast 126 = .ok (.invokevirtual 124, 3) := by decide +kernel
theorem dX5_failsAtAllLast_129 : decode cX5_failsAtAllLast 129 = .ok (.ifCond .eq 23, 3) := by decide +kernel
theorem dX5_failsAtAllLast_132 : decode cX5_failsAtAllLast 132 = .ok (.aload_n 0, 1) := by decide +kernel
theorem dX5_failsAtAllLast_133 : decode cX5_failsAtAllLast 133 = .ok (.iload_n 1, 1) := by decide +kernel
theorem dX5_failsAtAllLast_134 : decode cX5_failsAtAllLast 134 = .ok (.iload 5, 2) := by decide +kernel
theorem dX5_failsAtAllLast_136 : decode cX5_failsAtAllLast 136 = .ok (.invokevirtual 188, 3) := by decide +kernel
theorem dX5_failsAtAllLast_139 : decode cX5_failsAtAllLast 139 = .ok (.ifCond .ne 13, 3) := by decide +kernel
theorem dX5_failsAtAllLast_142 : decode cX5_failsAtAllLast 142 = .ok (.aload_n 0, 1) := by decide +kernel
theorem dX5_failsAtAllLast_143 : decode cX5_failsAtAllLast 143 = .ok (.getfield 43, 3) := by decide +kernel
theorem dX5_failsAtAllLast_146 : decode cX5_failsAtAllLast 146 = .ok (.iload_n 1, 1) := by decide +kernel
theorem dX5_failsAtAllLast_147 : decode cX5_failsAtAllLast 147 = .ok (.iload 5, 2) := by decide +kernel
theorem dX5_failsAtAllLast_149 : decode cX5_failsAtAllLast 149 = .ok (.invokevirtual 136, 3) := by decide +kernel
theorem dX5_failsAtAllLast_152 : decode cX5_failsAtAllLast 152 = .ok (.iinc 4 (-1), 3) := by decide +kernel
theorem dX5_failsAtAllLast_155 : decode cX5_failsAtAllLast 155 = .ok (.goto (-52), 3) := by decide +kernel
theorem dX5_failsAtAllLast_158 : decode cX5_failsAtAllLast 158 = .ok (.iconst 1, 1) := by decide +kernel
theorem dX5_failsAtAllLast_159 : decode cX5_failsAtAllLast 159 = .ok (.ireturn, 1) := by decide +kernel
set_option maxRecDepth 20000 in
theorem ggX5_singlesWithout_X2_part : GoodIn wsX5_singlesWithout wsX2_part := goodIn_r _ [9, 10, 11, 12, 13, 36, 37, 38, 39, 40] (by decide +kernel) (by decide +kernel)
set_option maxRecDepth 20000 in
theorem gX5_singlesWithout_X2_part : GoodIn wsX5_singlesWithout (wsV RX5 185 RX2 yX2_part wsX2_part) := goodIn_app (goodIn_of _ (by decide +kernel)) ggX5_singlesWithout_X2_part
set_option maxRecDepth 20000 in
theorem ggX5_singlesWithout_X3_has : GoodIn wsX5_singlesWithout wsX3_has := goodIn_r _ [18, 19, 41] (by decide +kernel) (by decide +kernel)
set_option maxRecDepth 20000 in
theorem gX5_singlesWithout_X3_has : GoodIn wsX5_singlesWithout (wsV RX5 124 RX3 yX3_has wsX3_has) := goodIn_app (goodIn_of _ (by decide +kernel)) ggX5_singlesWithout_X3_has
set_option maxRecDepth 20000 in
theorem ggX5_singlesWithout_X6_singles : GoodIn wsX5_singlesWithout wsX6_singles := goodIn_r _ [24, 25, 11, 12, 13, 42, 43, 44, 45, 46] (by decide +kernel) (by decide +kernel)
set_option maxRecDepth 20000 in
theorem gX5_singlesWithout_X6_singles : GoodIn wsX5_singlesWithout (wsV RX5 158 RX6 yX6_singles wsX6_singles) := goodIn_app (goodIn_of _ (by decide +kernel)) ggX5_singlesWithout_X6_singles
theorem dX5_singlesWithout_0 : decode cX5_singlesWithout 0 = .ok (.iconst (-1), 1) := by decide +kernel
theorem dX5_singlesWithout_1 : decode cX5_singlesWithout 1 = .ok (.istore_n 3, 1) := by decide +kernel
theorem dX5_singlesWithout_2 : decode cX5_singlesWithout 2 = .ok (.iconst 0, 1) := by decide +kernel
theorem dX5_singlesWithout_3 : decode cX5_singlesWithout 3 = .ok (.istore 4, 2) := by decide +kernel
theorem dX5_singlesWithout_5 : decode cX5_singlesWithout 5 = .ok (.iload 4, 2) := by decide +kernel
theorem dX5_singlesWithout_7 : decode cX5_singlesWithout 7 = .ok (.aload_n 0, 1) := by decide +kernel
theorem dX5_singlesWithout_8 : decode cX5_singlesWithout 8 = .ok (.getfield 30, 3) := by decide +kernel
theorem dX5_singlesWithout_11 : decode cX5_singlesWithout 11 = .ok (.getfield 152, 3) := by decide +kernel
theorem dX5_singlesWithout_14 : decode cX5_singlesWithout 14 = .ok (.if_icmp .ge 55, 3) := by decide +kernel
theorem dX5_singlesWithout_17 : decode cX5_singlesWithout 17 = .ok (.aload_n 0, 1) := by decide +kernel
theorem dX5_singlesWithout_18 : decode cX5_singlesWithout 18 = .ok (.getfield 30, 3) := by decide +kernel
theorem dX5_singlesWithout_21 : decode cX5_singlesWithout 21 = .ok (.iload 4, 2) := by decide +kernel
theorem dX5_singlesWithout_23 : decode cX5_singlesWithout 23 = .ok (.invokevirtual 185, 3) := by decide +kernel
theorem dX5_singlesWithout_26 : decode cX5_singlesWithout 26 = .ok (.istore 5, 2) := by decide +kernel
theorem dX5_singlesWithout_28 : decode cX5_singlesWithout 28 = .ok (.iload_n 3, 1) := by decide +kernel
theorem dX5_singlesWithout_29 : decode cX5_singlesWithout 29 = .ok (.iload 5, 2) := by decide +kernel
theorem dX5_singlesWithout_31 : decode cX5_singlesWithout 31 = .ok (.iload_n 2, 1) := by decide +kernel
theorem dX5_singlesWithout_32 : decode cX5_singlesWithout 32 = .ok (.if_icmp .eq 28, 3) := by decide +kernel
theorem dX5_singlesWithout_35 : decode cX5_singlesWithout 35 = .ok (.aload_n 0, 1) := by decide +kernel
theorem dX5_singlesWithout_36 : decode cX5_singlesWithout 36 = .ok (.getfield 43, 3) := by decide +kernel
theorem dX5_singlesWithout_39 : decode cX5_singlesWithout 39 = .ok (.iload_n 1, 1) := by decide +kernel
theorem dX5_singlesWithout_40 : decode cX5_singlesWithout 40 = .ok (.iload 5, 2) := by decide +kernel
theorem dX5_singlesWithout_42 : decode cX5_singlesWithout 42 = .ok (.invokevirtual 124, 3) := by decide +kernel
theorem dX5_singlesWithout_45 : decode cX5_singlesWithout 45 = .ok (.ifCond .eq 15, 3) := by decide +kernel
theorem dX5_singlesWithout_48 : decode cX5_singlesWithout 48 = .ok (.aload_n 0, 1) := by decide +kernel
theorem dX5_singlesWithout_49 : decode cX5_singlesWithout 49 = .ok (.getfield 14, 3) := by decide +kernel
theorem dX5_singlesWithout_52 : decode cX5_singlesWithout 52 = .ok (.iload 5, 2) := by decide +kernel
theorem dX5_singlesWithout_54 : decode cX5_singlesWithout 54 = .ok (.invokevirtual 158, 3) := by decide +kernel
theorem dX5_singlesWithout_57 : decode cX5_singlesWithout 57 = .ok (.goto 4, 3) := by decide +kernel
theorem dX5_singlesWithout_60 : decode cX5_singlesWithout 60 = .ok (.iconst (-1), 1) := by decide +kernel
theorem dX5_singlesWithout_61 : decode cX5_singlesWithout 61 = .ok (.iand, 1) := by decide +kernel
theorem dX5_singlesWithout_62 : decode cX5_singlesWithout 62 = .ok (.istore_n 3, 1) := by decide +kernel
theorem dX5_singlesWithout_63 : decode cX5_singlesWithout 63 = .ok (.iinc 4 1, 3) := by decide +kernel
theorem dX5_singlesWithout_66 : decode cX5_singlesWithout 66 = .ok (.goto (-61), 3) := by decide +kernel
theorem dX5_singlesWithout_69 : decode cX5_singlesWithout 69 = .ok (.iload_n 3, 1) := by decide +kernel
theorem dX5_singlesWithout_70 : decode cX5_singlesWithout 70 = .ok (.ireturn, 1) := by decide +kernel
set_option maxRecDepth 20000 in
theorem ggX5_hasProved_X1_goal : GoodIn wsX5_hasProved wsX1_goal := goodIn_r _ [11, 12, 13, 14, 15, 45, 46, 47, 48] (by decide +kernel) (by decide +kernel)
set_option maxRecDepth 20000 in
theorem gX5_hasProved_X1_goal : GoodIn wsX5_hasProved (wsV RX5 191 RX1 yX1_goal wsX1_goal) := goodIn_app (goodIn_of _ (by decide +kernel)) ggX5_hasProved_X1_goal
set_option maxRecDepth 20000 in
theorem ggX5_hasProved_X3_isWithin : GoodIn wsX5_hasProved wsX3_isWithin := goodIn_r _ [20, 21, 22, 23, 24, 19, 25, 26, 54] (by decide +kernel) (by decide +kernel)
set_option maxRecDepth 20000 in
theorem gX5_hasProved_X3_isWithin : GoodIn wsX5_hasProved (wsV RX5 181 RX3 yX3_isWithin wsX3_isWithin) := goodIn_app (goodIn_of _ (by decide +kernel)) ggX5_hasProved_X3_isWithin
set_option maxRecDepth 20000 in
theorem ggX5_hasProved_X3_copy : GoodIn wsX5_hasProved wsX3_copy := goodIn_r _ [30, 22, 23, 24, 19, 25, 26, 31, 32, 33, 34, 54] (by decide +kernel) (by decide +kernel)
set_option maxRecDepth 20000 in
theorem gX5_hasProved_X3_copy : GoodIn wsX5_hasProved (wsV RX5 125 RX3 yX3_copy wsX3_copy) := goodIn_app (goodIn_of _ (by decide +kernel)) ggX5_hasProved_X3_copy
theorem dX5_hasProved_0 : decode cX5_hasProved 0 = .ok (.iconst 0, 1) := by decide +kernel
theorem dX5_hasProved_1 : decode cX5_hasProved 1 = .ok (.istore_n 3, 1) := by decide +kernel
theorem dX5_hasProved_2 : decode cX5_hasProved 2 = .ok (.iload_n 3, 1) := by decide +kernel
theorem dX5_hasProved_3 : decode cX5_hasProved 3 = .ok (.aload_n 0, 1) := by decide +kernel
theorem dX5_hasProved_4 : decode cX5_hasProved 4 = .ok (.getfield 63, 3) := by decide +kernel
theorem dX5_hasProved_7 : decode cX5_hasProved 7 = .ok (.getfield 174, 3) := by decide +kernel
theorem dX5_hasProved_10 : decode cX5_hasProved 10 = .ok (.if_icmp .ge 61, 3) := by decide +kernel
theorem dX5_hasProved_13 : decode cX5_hasProved 13 = .ok (.aload_n 0, 1) := by decide +kernel
theorem dX5_hasProved_14 : decode cX5_hasProved 14 = .ok (.getfield 63, 3) := by decide +kernel
theorem dX5_hasProved_17 : decode cX5_hasProved 17 = .ok (.iload_n 3, 1) := by decide +kernel
theorem dX5_hasProved_18 : decode cX5_hasProved 18 = .ok (.invokevirtual 191, 3) := by decide +kernel
theorem dX5_hasProved_21 : decode cX5_hasProved 21 = .ok (.iload_n 2, 1) := by decide +kernel
theorem dX5_hasProved_22 : decode cX5_hasProved 22 = .ok (.if_icmp .ne 43, 3) := by decide +kernel
theorem dX5_hasProved_25 : decode cX5_hasProved 25 = .ok (.aload_n 0, 1) := by decide +kernel
theorem dX5_hasProved_26 : decode cX5_hasProved 26 = .ok (.getfield 63, 3) := by decide +kernel
theorem dX5_hasProved_29 : decode cX5_hasProved 29 = .ok (.getfield 178, 3) := by decide +kernel
theorem dX5_hasProved_32 : decode cX5_hasProved 32 = .ok (.iload_n 3, 1) := by decide +kernel
theorem dX5_hasProved_33 : decode cX5_hasProved 33 = .ok (.aload_n 0, 1) := by decide +kernel
theorem dX5_hasProved_34 : decode cX5_hasProved 34 = .ok (.getfield 30, 3) := by decide +kernel
theorem dX5_hasProved_37 : decode cX5_hasProved 37 = .ok (.getfield 175, 3) := by decide +kernel
theorem dX5_hasProved_40 : decode cX5_hasProved 40 = .ok (.iconst 0, 1) := by decide +kernel
theorem dX5_hasProved_41 : decode cX5_hasProved 41 = .ok (.invokevirtual 181, 3) := by decide +kernel
theorem dX5_hasProved_44 : decode cX5_hasProved 44 = .ok (.ifCond .eq 21, 3) := by decide +kernel
theorem dX5_hasProved_47 : decode cX5_hasProved 47 = .ok (.aload_n 0, 1) := by decide +kernel
theorem dX5_hasProved_48 : decode cX5_hasProved 48 = .ok (.getfield 43, 3) := by decide +kernel
theorem dX5_hasProved_51 : decode cX5_hasProved 51 = .ok (.iload_n 1, 1) := by decide +kernel
theorem dX5_hasProved_52 : decode cX5_hasProved 52 = .ok (.aload_n 0, 1) := by decide +kernel
theorem dX5_hasProved_53 : decode cX5_hasProved 53 = .ok (.getfield 63, 3) := by decide +kernel
theorem dX5_hasProved_56 : decode cX5_hasProved 56 = .ok (.getfield 178, 3) := by decide +kernel
theorem dX5_hasProved_59 : decode cX5_hasProved 59 = .ok (.iload_n 3, 1) := by decide +kernel
theorem dX5_hasProved_60 : decode cX5_hasProved 60 = .ok (.invokevirtual 125, 3) := by decide +kernel
theorem dX5_hasProved_63 : decode cX5_hasProved 63 = .ok (.iconst 1, 1) := by decide +kernel
theorem dX5_hasProved_64 : decode cX5_hasProved 64 = .ok (.ireturn, 1) := by decide +kernel
theorem dX5_hasProved_65 : decode cX5_hasProved 65 = .ok (.iinc 3 1, 3) := by decide +kernel
theorem dX5_hasProved_68 : decode cX5_hasProved 68 = .ok (.goto (-66), 3) := by decide +kernel
theorem dX5_hasProved_71 : decode cX5_hasProved 71 = .ok (.iconst 0, 1) := by decide +kernel
theorem dX5_hasProved_72 : decode cX5_hasProved 72 = .ok (.ireturn, 1) := by decide +kernel
set_option maxRecDepth 20000 in
theorem ggX5_firstTrial_X2_spread_h : GoodIn wsX5_firstTrial [Cond.code yX2_spread cX2_spread 4 none] := goodIn_r _ [13] (by decide +kernel) (by decide +kernel)
set_option maxRecDepth 20000 in
theorem ggX5_firstTrial_X2_spread_0 : GoodIn wsX5_firstTrial wsX2_spread_r1 := goodIn_r _ [14, 15, 16, 17, 18, 12, 19, 20, 21, 22, 23, 24, 25, 26, 27, 28, 29, 30, 31, 32, 33, 34, 35, 36] (by decide +kernel) (by decide +kernel)
set_option maxRecDepth 20000 in
theorem ggX5_firstTrial_X2_spread_1 : GoodIn wsX5_firstTrial wsX2_spread_r2 := goodIn_r _ [37, 38, 39, 40, 41, 42, 43, 44, 45, 46, 47, 48, 49, 50, 51, 52, 53, 54, 55] (by decide +kernel) (by decide +kernel)
set_option maxRecDepth 20000 in
theorem ggX5_firstTrial_X2_spread_2 : GoodIn wsX5_firstTrial wsX20 := goodIn_r _ [92, 93, 94, 95, 96] (by decide +kernel) (by decide +kernel)
set_option maxRecDepth 20000 in
theorem ggX5_firstTrial_X2_spread_3 : GoodIn wsX5_firstTrial wsX40 := goodIn_r _ [84, 85, 86, 87, 88, 89, 90, 91] (by decide +kernel) (by decide +kernel)
set_option maxRecDepth 20000 in
theorem ggX5_firstTrial_X2_spread_4 : GoodIn wsX5_firstTrial wsX30 := goodIn_r _ [97] (by decide +kernel) (by decide +kernel)
theorem ggX5_firstTrial_X2_spread : GoodIn wsX5_firstTrial wsX2_spread := goodIn_app ggX5_firstTrial_X2_spread_h (goodIn_app (goodIn_app (goodIn_app (goodIn_app ggX5_firstTrial_X2_spread_0 ggX5_firstTrial_X2_spread_1) ggX5_firstTrial_X2_spread_2) ggX5_firstTrial_X2_spread_3) ggX5_firstTrial_X2_spread_4)
set_option maxRecDepth 20000 in
theorem gX5_firstTrial_X2_spread : GoodIn wsX5_firstTrial (wsV RX5 194 RX2 yX2_spread wsX2_spread) := goodIn_app (goodIn_of _ (by decide +kernel)) ggX5_firstTrial_X2_spread
set_option maxRecDepth 20000 in
theorem ggX5_firstTrial_X2_has : GoodIn wsX5_firstTrial wsX2_has := goodIn_r _ [59, 23, 27, 28, 29, 30, 31, 32, 92, 93, 94, 95, 96, 97] (by decide +kernel) (by decide +kernel)
set_option maxRecDepth 20000 in
theorem gX5_firstTrial_X2_has : GoodIn wsX5_firstTrial (wsV RX5 197 RX2 yX2_has wsX2_has) := goodIn_app (goodIn_of _ (by decide +kernel)) ggX5_firstTrial_X2_has
set_option maxRecDepth 20000 in
theorem ggX5_firstTrial_X3_fill : GoodIn wsX5_firstTrial wsX3_fill := goodIn_r _ [43, 32, 44, 97] (by decide +kernel) (by decide +kernel)
set_option maxRecDepth 20000 in
theorem gX5_firstTrial_X3_fill : GoodIn wsX5_firstTrial (wsV RX5 168 RX3 yX3_fill wsX3_fill) := goodIn_app (goodIn_of _ (by decide +kernel)) ggX5_firstTrial_X3_fill
set_option maxRecDepth 20000 in
theorem ggX5_firstTrial_X3_add : GoodIn wsX5_firstTrial wsX3_add := goodIn_r _ [48, 32, 97] (by decide +kernel) (by decide +kernel)
set_option maxRecDepth 20000 in
theorem gX5_firstTrial_X3_add : GoodIn wsX5_firstTrial (wsV RX5 172 RX3 yX3_add wsX3_add) := goodIn_app (goodIn_of _ (by decide +kernel)) ggX5_firstTrial_X3_add
set_option maxRecDepth 20000 in
theorem ggX5_firstTrial_X5_doubt_h : GoodIn wsX5_firstTrial [Cond.code yX5_doubt cX5_doubt 6 none] := goodIn_r _ [66] (by decide +kernel) (by decide +kernel)
set_option maxRecDepth 20000 in
theorem ggX5_firstTrial_X5_doubt_0 : GoodIn wsX5_firstTrial wsX5_doubt_r1 := goodIn_r _ [67, 3, 4, 6, 7, 1, 60, 41, 42, 30, 43, 32, 44, 61, 46, 47, 48, 56, 57, 58, 12, 59, 23, 27] (by decide +kernel) (by decide +kernel)
set_option maxRecDepth 20000 in
theorem ggX5_firstTrial_X5_doubt_1 : GoodIn wsX5_firstTrial wsX5_doubt_r2 := goodIn_r _ [28, 29, 31, 68, 50, 51, 52, 53, 54, 55, 69] (by decide +kernel) (by decide +kernel)
set_option maxRecDepth 20000 in
theorem ggX5_firstTrial_X5_doubt_2 : GoodIn wsX5_firstTrial wsX50 := goodIn_r _ [74, 75, 76, 77, 78, 79, 80, 81, 82, 83] (by decide +kernel) (by decide +kernel)
set_option maxRecDepth 20000 in
theorem ggX5_firstTrial_X5_doubt_3 : GoodIn wsX5_firstTrial wsX40 := goodIn_r _ [84, 85, 86, 87, 88, 89, 90, 91] (by decide +kernel) (by decide +kernel)
set_option maxRecDepth 20000 in
theorem ggX5_firstTrial_X5_doubt_4 : GoodIn wsX5_firstTrial wsX30 := goodIn_r _ [97] (by decide +kernel) (by decide +kernel)
set_option maxRecDepth 20000 in
theorem ggX5_firstTrial_X5_doubt_5 : GoodIn wsX5_firstTrial wsX20 := goodIn_r _ [92, 93, 94, 95, 96] (by decide +kernel) (by decide +kernel)
theorem ggX5_firstTrial_X5_doubt : GoodIn wsX5_firstTrial wsX5_doubt := goodIn_app ggX5_firstTrial_X5_doubt_h (goodIn_app (goodIn_app (goodIn_app (goodIn_app (goodIn_app ggX5_firstTrial_X5_doubt_0 ggX5_firstTrial_X5_doubt_1) ggX5_firstTrial_X5_doubt_2) ggX5_firstTrial_X5_doubt_3) ggX5_firstTrial_X5_doubt_4) ggX5_firstTrial_X5_doubt_5)
set_option maxRecDepth 20000 in
theorem gX5_firstTrial_X5_doubt : GoodIn wsX5_firstTrial (wsV RX5 199 RX5 yX5_doubt wsX5_doubt) := goodIn_app (goodIn_of _ (by decide +kernel)) ggX5_firstTrial_X5_doubt
set_option maxRecDepth 20000 in
theorem ggX5_firstTrial_X5_nextTrial_h : GoodIn wsX5_firstTrial [Cond.code yX5_nextTrial cX5_nextTrial 3 (some .int)] := goodIn_r _ [73] (by decide +kernel) (by decide +kernel)
set_option maxRecDepth 20000 in
theorem ggX5_firstTrial_X5_nextTrial_0 : GoodIn wsX5_firstTrial wsX5_nextTrial_r1 := goodIn_r _ [3, 4, 67, 1, 6, 69, 28, 29, 30, 31, 32, 68, 50, 51, 52, 53, 54, 55, 56, 57, 58, 12, 59, 23] (by decide +kernel) (by decide +kernel)
set_option maxRecDepth 20000 in
theorem ggX5_firstTrial_X5_nextTrial_1 : GoodIn wsX5_firstTrial wsX5_nextTrial_r2 := goodIn_r _ [27] (by decide +kernel) (by decide +kernel)
set_option maxRecDepth 20000 in
theorem ggX5_firstTrial_X5_nextTrial_2 : GoodIn wsX5_firstTrial wsX50 := goodIn_r _ [74, 75, 76, 77, 78, 79, 80, 81, 82, 83] (by decide +kernel) (by decide +kernel)
set_option maxRecDepth 20000 in
theorem ggX5_firstTrial_X5_nextTrial_3 : GoodIn wsX5_firstTrial wsX40 := goodIn_r _ [84, 85, 86, 87, 88, 89, 90, 91] (by decide +kernel) (by decide +kernel)
set_option maxRecDepth 20000 in
theorem ggX5_firstTrial_X5_nextTrial_4 : GoodIn wsX5_firstTrial wsX30 := goodIn_r _ [97] (by decide +kernel) (by decide +kernel)
set_option maxRecDepth 20000 in
theorem ggX5_firstTrial_X5_nextTrial_5 : GoodIn wsX5_firstTrial wsX20 := goodIn_r _ [92, 93, 94, 95, 96] (by decide +kernel) (by decide +kernel)
theorem ggX5_firstTrial_X5_nextTrial : GoodIn wsX5_firstTrial wsX5_nextTrial := goodIn_app ggX5_firstTrial_X5_nextTrial_h (goodIn_app (goodIn_app (goodIn_app (goodIn_app (goodIn_app ggX5_firstTrial_X5_nextTrial_0 ggX5_firstTrial_X5_nextTrial_1) ggX5_firstTrial_X5_nextTrial_2) ggX5_firstTrial_X5_nextTrial_3) ggX5_firstTrial_X5_nextTrial_4) ggX5_firstTrial_X5_nextTrial_5)
set_option maxRecDepth 20000 in
theorem gX5_firstTrial_X5_nextTrial : GoodIn wsX5_firstTrial (wsV RX5 139 RX5 yX5_nextTrial wsX5_nextTrial) := goodIn_app (goodIn_of _ (by decide +kernel)) ggX5_firstTrial_X5_nextTrial
theorem dX5_firstTrial_0 : decode cX5_firstTrial 0 = .ok (.aload_n 0, 1) := by decide +kernel
theorem dX5_firstTrial_1 : decode cX5_firstTrial 1 = .ok (.getfield 30, 3) := by decide +kernel
theorem dX5_firstTrial_4 : decode cX5_firstTrial 4 = .ok (.invokevirtual 194, 3) := by decide +kernel
theorem dX5_firstTrial_7 : decode cX5_firstTrial 7 = .ok (.aload_n 0, 1) := by decide +kernel
theorem dX5_firstTrial_8 : decode cX5_firstTrial 8 = .ok (.getfield 30, 3) := by decide +kernel
theorem dX5_firstTrial_11 : decode cX5_firstTrial 11 = .ok (.iconst 5, 1) := by decide +kernel
theorem dX5_firstTrial_12 : decode cX5_firstTrial 12 = .ok (.invokevirtual 197, 3) := by decide +kernel
theorem dX5_firstTrial_15 : decode cX5_firstTrial 15 = .ok (.ifCond .ne 14, 3) := by decide +kernel
theorem dX5_firstTrial_18 : decode cX5_firstTrial 18 = .ok (.aload_n 0, 1) := by decide +kernel
theorem dX5_firstTrial_19 : decode cX5_firstTrial 19 = .ok (.getfield 30, 3) := by decide +kernel
theorem dX5_firstTrial_22 : decode cX5_firstTrial 22 = .ok (.iload_n 2, 1) := by decide +kernel
theorem dX5_firstTrial_23 : decode cX5_firstTrial 23 = .ok (.invokevirtual 197, 3) := by decide +kernel
theorem dX5_firstTrial_26 : decode cX5_firstTrial 26 = .ok (.ifCond .eq 38, 3) := by decide +kernel
theorem dX5_firstTrial_29 : decode cX5_firstTrial 29 = .ok (.aload_n 0, 1) := by decide +kernel
theorem dX5_firstTrial_30 : decode cX5_firstTrial 30 = .ok (.getfield 43, 3) := by decide +kernel
theorem dX5_firstTrial_33 : decode cX5_firstTrial 33 = .ok (.iload_n 1, 1) := by decide +kernel
theorem dX5_firstTrial_34 : decode cX5_firstTrial 34 = .ok (.iconst 0, 1) := by decide +kernel
theorem dX5_firstTrial_35 : decode cX5_firstTrial 35 = .ok (.invokevirtual 168, 3) := by decide +kernel
theorem dX5_firstTrial_38 : decode cX5_firstTrial 38 = .ok (.aload_n 0, 1) := by decide +kernel
theorem dX5_firstTrial_39 : decode cX5_firstTrial 39 = .ok (.getfield 43, 3) := by decide +kernel
theorem dX5_firstTrial_42 : decode cX5_firstTrial 42 = .ok (.iload_n 1, 1) := by decide +kernel
theorem dX5_firstTrial_43 : decode cX5_firstTrial 43 = .ok (.aload_n 0, 1) := by decide +kernel
theorem dX5_firstTrial_44 : decode cX5_firstTrial 44 = .ok (.getfield 30, 3) := by decide +kernel
theorem dX5_firstTrial_47 : decode cX5_firstTrial 47 = .ok (.iconst 5, 1) := by decide +kernel
theorem dX5_firstTrial_48 : decode cX5_firstTrial 48 = .ok (.invokevirtual 197, 3) := by decide +kernel
theorem dX5_firstTrial_51 : decode cX5_firstTrial 51 = .ok (.ifCond .eq 7, 3) := by decide +kernel
theorem dX5_firstTrial_54 : decode cX5_firstTrial 54 = .ok (.iconst 5, 1) := by decide +kernel
theorem dX5_firstTrial_55 : decode cX5_firstTrial 55 = .ok (.goto 4, 3) := by decide +kernel
theorem dX5_firstTrial_58 : decode cX5_firstTrial 58 = .ok (.iload_n 2, 1) := by decide +kernel
theorem dX5_firstTrial_59 : decode cX5_firstTrial 59 = .ok (.invokevirtual 172, 3) := by decide +kernel
theorem dX5_firstTrial_62 : decode cX5_firstTrial 62 = .ok (.iconst (-1), 1) := by decide +kernel
theorem dX5_firstTrial_63 : decode cX5_firstTrial 63 = .ok (.ireturn, 1) := by decide +kernel
theorem dX5_firstTrial_64 : decode cX5_firstTrial 64 = .ok (.bipush 6, 2) := by decide +kernel
theorem dX5_firstTrial_66 : decode cX5_firstTrial 66 = .ok (.istore_n 3, 1) := by decide +kernel
theorem dX5_firstTrial_67 : decode cX5_firstTrial 67 = .ok (.iload_n 3, 1) := by decide +kernel
theorem dX5_firstTrial_68 : decode cX5_firstTrial 68 = .ok (.aload_n 0, 1) := by decide +kernel
theorem dX5_firstTrial_69 : decode cX5_firstTrial 69 = .ok (.getfield 24, 3) := by decide +kernel
theorem dX5_firstTrial_72 : decode cX5_firstTrial 72 = .ok (.getfield 163, 3) := by decide +kernel
theorem dX5_firstTrial_75 : decode cX5_firstTrial 75 = .ok (.if_icmp .ge 74, 3) := by decide +kernel
theorem dX5_firstTrial_78 : decode cX5_firstTrial 78 = .ok (.aload_n 0, 1) := by decide +kernel
theorem dX5_firstTrial_79 : decode cX5_firstTrial 79 = .ok (.getfield 24, 3) := by decide +kernel
theorem dX5_firstTrial_82 : decode cX5_firstTrial 82 = .ok (.getfield 108, 3) := by decide +kernel
theorem dX5_firstTrial_85 : decode cX5_firstTrial 85 = .ok (.iload_n 3, 1) := by decide +kernel
theorem dX5_firstTrial_86 : decode cX5_firstTrial 86 = .ok (.iaload, 1) := by decide +kernel
theorem dX5_firstTrial_87 : decode cX5_firstTrial 87 = .ok (.bipush 8, 2) := by decide +kernel
theorem dX5_firstTrial_89 : decode cX5_firstTrial 89 = .ok (.if_icmp .ne 54, 3) := by decide +kernel
theorem dX5_firstTrial_92 : decode cX5_firstTrial 92 = .ok (.aload_n 0, 1) := by decide +kernel
theorem dX5_firstTrial_93 : decode cX5_firstTrial 93 = .ok (.getfield 30, 3) := by decide +kernel
theorem dX5_firstTrial_96 : decode cX5_firstTrial 96 = .ok (.iload_n 3, 1) := by decide +kernel
theorem dX5_firstTrial_97 : decode cX5_firstTrial 97 = .ok (.invokevirtual 197, 3) := by decide +kernel
theorem dX5_firstTrial_100 : decode cX5_firstTrial 100 = .ok (.ifCond .eq 43, 3) := by decide +kernel
theorem dX5_firstTrial_103 : decode cX5_firstTrial 103 = .ok (.aload_n 0, 1) := by decide +kernel
theorem dX5_firstTrial_104 : decode cX5_firstTrial 104 = .ok (.getfield 30, 3) := by decide +kernel
theorem dX5_firstTrial_107 : decode cX5_firstTrial 107 = .ok (.aload_n 0, 1) := by decide +kernel
theorem dX5_firstTrial_108 : decode cX5_firstTrial 108 = .ok (.getfield 24, 3) := by decide +kernel
theorem dX5_firstTrial_111 : decode cX5_firstTrial 111 = .ok (.getfield 115, 3) := by decide +kernel
theorem dX5_firstTrial_114 : decode cX5_firstTrial 114 = .ok (.iload_n 3, 1) := by decide +kernel
theorem dX5_firstTrial_115 : decode cX5_firstTrial 115 = .ok (.iaload, 1) := by decide +kernel
theorem dX5_firstTrial_116 : decode cX5_firstTrial 116 = .ok (.invokevirtual 197, 3) := by decide +kernel
theorem dX5_firstTrial_119 : decode cX5_firstTrial 119 = .ok (.ifCond .ne 24, 3) := by decide +kernel
theorem dX5_firstTrial_122 : decode cX5_firstTrial 122 = .ok (.aload_n 0, 1) := by decide +kernel
theorem dX5_firstTrial_123 : decode cX5_firstTrial 123 = .ok (.getfield 30, 3) := by decide +kernel
theorem dX5_firstTrial_126 : decode cX5_firstTrial 126 = .ok (.aload_n 0, 1) := by decide +kernel
theorem dX5_firstTrial_127 : decode cX5_firstTrial 127 = .ok (.getfield 24, 3) := by decide +kernel
theorem dX5_firstTrial_130 : decode cX5_firstTrial 130 = .ok (.getfield 118, 3) := by decide +kernel
theorem dX5_firstTrial_133 : decode cX5_firstTrial 133 = .ok (.iload_n 3, 1) := by decide +kernel
theorem dX5_firstTrial_134 : decode cX5_firstTrial 134 = .ok (.iaload, 1) := by decide +kernel
theorem dX5_firstTrial_135 : decode cX5_firstTrial 135 = .ok (.invokevirtual 197, 3) := by decide +kernel
theorem dX5_firstTrial_138 : decode cX5_firstTrial 138 = .ok (.ifCond .ne 5, 3) := by decide +kernel
theorem dX5_firstTrial_141 : decode cX5_firstTrial 141 = .ok (.iload_n 3, 1) := by decide +kernel
theorem dX5_firstTrial_142 : decode cX5_firstTrial 142 = .ok (.ireturn, 1) := by decide +kernel
theorem dX5_firstTrial_143 : decode cX5_firstTrial 143 = .ok (.iinc 3 1, 3) := by decide +kernel
theorem dX5_firstTrial_146 : decode cX5_firstTrial 146 = .ok (.goto (-79), 3) := by decide +kernel
theorem dX5_firstTrial_149 : decode cX5_firstTrial 149 = .ok (.aload_n 0, 1) := by decide +kernel
theorem dX5_firstTrial_150 : decode cX5_firstTrial 150 = .ok (.iload_n 1, 1) := by decide +kernel
theorem dX5_firstTrial_151 : decode cX5_firstTrial 151 = .ok (.iload_n 2, 1) := by decide +kernel
theorem dX5_firstTrial_152 : decode cX5_firstTrial 152 = .ok (.invokevirtual 199, 3) := by decide +kernel
theorem dX5_firstTrial_155 : decode cX5_firstTrial 155 = .ok (.aload_n 0, 1) := by decide +kernel
theorem dX5_firstTrial_156 : decode cX5_firstTrial 156 = .ok (.getfield 50, 3) := by decide +kernel
theorem dX5_firstTrial_159 : decode cX5_firstTrial 159 = .ok (.iload_n 1, 1) := by decide +kernel
theorem dX5_firstTrial_160 : decode cX5_firstTrial 160 = .ok (.iconst 1, 1) := by decide +kernel
theorem dX5_firstTrial_161 : decode cX5_firstTrial 161 = .ok (.invokevirtual 168, 3) := by decide +kernel
theorem dX5_firstTrial_164 : decode cX5_firstTrial 164 = .ok (.aload_n 0, 1) := by decide +kernel
theorem dX5_firstTrial_165 : decode cX5_firstTrial 165 = .ok (.iload_n 1, 1) := by decide +kernel
theorem dX5_firstTrial_166 : decode cX5_firstTrial 166 = .ok (.invokevirtual 139, 3) := by decide +kernel
theorem dX5_firstTrial_169 : decode cX5_firstTrial 169 = .ok (.ireturn, 1) := by decide +kernel
set_option maxRecDepth 20000 in
theorem ggX5_nextTrial_X3_has : GoodIn wsX5_nextTrial wsX3_has := goodIn_r _ [10, 11, 44] (by decide +kernel) (by decide +kernel)
set_option maxRecDepth 20000 in
theorem gX5_nextTrial_X3_has : GoodIn wsX5_nextTrial (wsV RX5 124 RX3 yX3_has wsX3_has) := goodIn_app (goodIn_of _ (by decide +kernel)) ggX5_nextTrial_X3_has
set_option maxRecDepth 20000 in
theorem ggX5_nextTrial_X4_isIf : GoodIn wsX5_nextTrial wsX4_isIf := goodIn_r _ [16, 17, 18, 36, 37, 38, 39, 40, 41, 42, 43] (by decide +kernel) (by decide +kernel)
set_option maxRecDepth 20000 in
theorem gX5_nextTrial_X4_isIf : GoodIn wsX5_nextTrial (wsV RX5 164 RX4 yX4_isIf wsX4_isIf) := goodIn_app (goodIn_of _ (by decide +kernel)) ggX5_nextTrial_X4_isIf
set_option maxRecDepth 20000 in
theorem ggX5_nextTrial_X2_has : GoodIn wsX5_nextTrial wsX2_has := goodIn_r _ [23, 24, 25, 7, 8, 9, 10, 11, 45, 46, 47, 48, 49, 44] (by decide +kernel) (by decide +kernel)
set_option maxRecDepth 20000 in
theorem gX5_nextTrial_X2_has : GoodIn wsX5_nextTrial (wsV RX5 197 RX2 yX2_has wsX2_has) := goodIn_app (goodIn_of _ (by decide +kernel)) ggX5_nextTrial_X2_has
theorem dX5_nextTrial_0 : decode cX5_nextTrial 0 = .ok (.aload_n 0, 1) := by decide +kernel
theorem dX5_nextTrial_1 : decode cX5_nextTrial 1 = .ok (.getfield 24, 3) := by decide +kernel
theorem dX5_nextTrial_4 : decode cX5_nextTrial 4 = .ok (.getfield 163, 3) := by decide +kernel
theorem dX5_nextTrial_7 : decode cX5_nextTrial 7 = .ok (.iconst 1, 1) := by decide +kernel
theorem dX5_nextTrial_8 : decode cX5_nextTrial 8 = .ok (.isub, 1) := by decide +kernel
theorem dX5_nextTrial_9 : decode cX5_nextTrial 9 = .ok (.istore_n 2, 1) := by decide +kernel
theorem dX5_nextTrial_10 : decode cX5_nextTrial 10 = .ok (.iload_n 2, 1) := by decide +kernel
theorem dX5_nextTrial_11 : decode cX5_nextTrial 11 = .ok (.bipush 6, 2) := by decide +kernel
theorem dX5_nextTrial_13 : decode cX5_nextTrial 13 = .ok (.if_icmp .lt 64, 3) := by decide +kernel
theorem dX5_nextTrial_16 : decode cX5_nextTrial 16 = .ok (.aload_n 0, 1) := by decide +kernel
theorem dX5_nextTrial_17 : decode cX5_nextTrial 17 = .ok (.getfield 47, 3) := by decide +kernel
theorem dX5_nextTrial_20 : decode cX5_nextTrial 20 = .ok (.iload_n 1, 1) := by decide +kernel
theorem dX5_nextTrial_21 : decode cX5_nextTrial 21 = .ok (.iload_n 2, 1) := by decide +kernel
theorem dX5_nextTrial_22 : decode cX5_nextTrial 22 = .ok (.invokevirtual 124, 3) := by decide +kernel
theorem dX5_nextTrial_25 : decode cX5_nextTrial 25 = .ok (.ifCond .eq 46, 3) := by decide +kernel
theorem dX5_nextTrial_28 : decode cX5_nextTrial 28 = .ok (.aload_n 0, 1) := by decide +kernel
theorem dX5_nextTrial_29 : decode cX5_nextTrial 29 = .ok (.getfield 24, 3) := by decide +kernel
theorem dX5_nextTrial_32 : decode cX5_nextTrial 32 = .ok (.iload_n 2, 1) := by decide +kernel
theorem dX5_nextTrial_33 : decode cX5_nextTrial 33 = .ok (.invokevirtual 164, 3) := by decide +kernel
theorem dX5_nextTrial_36 : decode cX5_nextTrial 36 = .ok (.ifCond .eq 35, 3) := by decide +kernel
theorem dX5_nextTrial_39 : decode cX5_nextTrial 39 = .ok (.aload_n 0, 1) := by decide +kernel
theorem dX5_nextTrial_40 : decode cX5_nextTrial 40 = .ok (.getfield 30, 3) := by decide +kernel
theorem dX5_nextTrial_43 : decode cX5_nextTrial 43 = .ok (.iload_n 2, 1) := by decide +kernel
theorem dX5_nextTrial_44 : decode cX5_nextTrial 44 = .ok (.invokevirtual 197, 3) := by decide +kernel
theorem dX5_nextTrial_47 : decode cX5_nextTrial 47 = .ok (.ifCond .ne 24, 3) := by decide +kernel
theorem dX5_nextTrial_50 : decode cX5_nextTrial 50 = .ok (.aload_n 0, 1) := by decide +kernel
theorem dX5_nextTrial_51 : decode cX5_nextTrial 51 = .ok (.getfield 30, 3) := by decide +kernel
theorem dX5_nextTrial_54 : decode cX5_nextTrial 54 = .ok (.aload_n 0, 1) := by decide +kernel
theorem dX5_nextTrial_55 : decode cX5_nextTrial 55 = .ok (.getfield 24, 3) := by decide +kernel
theorem dX5_nextTrial_58 : decode cX5_nextTrial 58 = .ok (.getfield 115, 3) := by decide +kernel
theorem dX5_nextTrial_61 : decode cX5_nextTrial 61 = .ok (.iload_n 2, 1) := by decide +kernel
theorem dX5_nextTrial_62 : decode cX5_nextTrial 62 = .ok (.iaload, 1) := by decide +kernel
theorem dX5_nextTrial_63 : decode cX5_nextTrial 63 = .ok (.invokevirtual 197, 3) := by decide +kernel
theorem dX5_nextTrial_66 : decode cX5_nextTrial 66 = .ok (.ifCond .ne 5, 3) := by decide +kernel
theorem dX5_nextTrial_69 : decode cX5_nextTrial 69 = .ok (.iload_n 2, 1) := by decide +kernel
theorem dX5_nextTrial_70 : decode cX5_nextTrial 70 = .ok (.ireturn, 1) := by decide +kernel
theorem dX5_nextTrial_71 : decode cX5_nextTrial 71 = .ok (.iinc 2 (-1), 3) := by decide +kernel
theorem dX5_nextTrial_74 : decode cX5_nextTrial 74 = .ok (.goto (-64), 3) := by decide +kernel
theorem dX5_nextTrial_77 : decode cX5_nextTrial 77 = .ok (.bipush (-2), 2) := by decide +kernel
theorem dX5_nextTrial_79 : decode cX5_nextTrial 79 = .ok (.ireturn, 1) := by decide +kernel
set_option maxRecDepth 20000 in
theorem ggX5_doubt_X3_fill : GoodIn wsX5_doubt wsX3_fill := goodIn_r _ [11, 12, 13, 54] (by decide +kernel) (by decide +kernel)
set_option maxRecDepth 20000 in
theorem gX5_doubt_X3_fill : GoodIn wsX5_doubt (wsV RX5 168 RX3 yX3_fill wsX3_fill) := goodIn_app (goodIn_of _ (by decide +kernel)) ggX5_doubt_X3_fill
set_option maxRecDepth 20000 in
theorem ggX5_doubt_X3_add : GoodIn wsX5_doubt wsX3_add := goodIn_r _ [17, 12, 54] (by decide +kernel) (by decide +kernel)
set_option maxRecDepth 20000 in
theorem gX5_doubt_X3_add : GoodIn wsX5_doubt (wsV RX5 172 RX3 yX3_add wsX3_add) := goodIn_app (goodIn_of _ (by decide +kernel)) ggX5_doubt_X3_add
set_option maxRecDepth 20000 in
theorem ggX5_doubt_X2_has : GoodIn wsX5_doubt wsX2_has := goodIn_r _ [22, 23, 24, 25, 26, 10, 27, 12, 55, 56, 57, 58, 59, 54] (by decide +kernel) (by decide +kernel)
set_option maxRecDepth 20000 in
theorem gX5_doubt_X2_has : GoodIn wsX5_doubt (wsV RX5 197 RX2 yX2_has wsX2_has) := goodIn_app (goodIn_of _ (by decide +kernel)) ggX5_doubt_X2_has
set_option maxRecDepth 20000 in
theorem ggX5_doubt_X4_isIf : GoodIn wsX5_doubt wsX4_isIf := goodIn_r _ [32, 33, 34, 46, 47, 48, 49, 50, 51, 52, 53] (by decide +kernel) (by decide +kernel)
set_option maxRecDepth 20000 in
theorem gX5_doubt_X4_isIf : GoodIn wsX5_doubt (wsV RX5 164 RX4 yX4_isIf wsX4_isIf) := goodIn_app (goodIn_of _ (by decide +kernel)) ggX5_doubt_X4_isIf
set_option maxRecDepth 20000 in
theorem ggX5_doubt_X3_has : GoodIn wsX5_doubt wsX3_has := goodIn_r _ [27, 12, 54] (by decide +kernel) (by decide +kernel)
set_option maxRecDepth 20000 in
theorem gX5_doubt_X3_has : GoodIn wsX5_doubt (wsV RX5 124 RX3 yX3_has wsX3_has) := goodIn_app (goodIn_of _ (by decide +kernel)) ggX5_doubt_X3_has
theorem dX5_doubt_0 : decode cX5_doubt 0 = .ok (.aload_n 0, 1) := by decide +kernel
theorem dX5_doubt_1 : decode cX5_doubt 1 = .ok (.getfield 47, 3) := by decide +kernel
theorem dX5_doubt_4 : decode cX5_doubt 4 = .ok (.iload_n 1, 1) := by decide +kernel
theorem dX5_doubt_5 : decode cX5_doubt 5 = .ok (.iconst 0, 1) := by decide +kernel
theorem dX5_doubt_6 : decode cX5_doubt 6 = .ok (.invokevirtual 168, 3) := by decide +kernel
theorem dX5_doubt_9 : decode cX5_doubt 9 = .ok (.aload_n 0, 1) := by decide +kernel
theorem dX5_doubt_10 : decode cX5_doubt 10 = .ok (.getfield 47, 3) := by decide +kernel
theorem dX5_doubt_13 : decode cX5_doubt 13 = .ok (.iload_n 1, 1) := by decide +kernel
theorem dX5_doubt_14 : decode cX5_doubt 14 = .ok (.iload_n 2, 1) := by decide +kernel
theorem dX5_doubt_15 : decode cX5_doubt 15 = .ok (.invokevirtual 172, 3) := by decide +kernel
theorem dX5_doubt_18 : decode cX5_doubt 18 = .ok (.aload_n 0, 1) := by decide +kernel
theorem dX5_doubt_19 : decode cX5_doubt 19 = .ok (.getfield 24, 3) := by decide +kernel
theorem dX5_doubt_22 : decode cX5_doubt 22 = .ok (.getfield 163, 3) := by decide +kernel
theorem dX5_doubt_25 : decode cX5_doubt 25 = .ok (.iconst 1, 1) := by decide +kernel
theorem dX5_doubt_26 : decode cX5_doubt 26 = .ok (.isub, 1) := by decide +kernel
theorem dX5_doubt_27 : decode cX5_doubt 27 = .ok (.istore_n 3, 1) := by decide +kernel
theorem dX5_doubt_28 : decode cX5_doubt 28 = .ok (.iload_n 3, 1) := by decide +kernel
theorem dX5_doubt_29 : decode cX5_doubt 29 = .ok (.bipush 6, 2) := by decide +kernel
theorem dX5_doubt_31 : decode cX5_doubt 31 = .ok (.if_icmp .lt 146, 3) := by decide +kernel
theorem dX5_doubt_34 : decode cX5_doubt 34 = .ok (.aload_n 0, 1) := by decide +kernel
theorem dX5_doubt_35 : decode cX5_doubt 35 = .ok (.getfield 24, 3) := by decide +kernel
theorem dX5_doubt_38 : decode cX5_doubt 38 = .ok (.getfield 115, 3) := by decide +kernel
theorem dX5_doubt_41 : decode cX5_doubt 41 = .ok (.iload_n 3, 1) := by decide +kernel
theorem dX5_doubt_42 : decode cX5_doubt 42 = .ok (.iaload, 1) := by decide +kernel
theorem dX5_doubt_43 : decode cX5_doubt 43 = .ok (.istore 4, 2) := by decide +kernel
theorem dX5_doubt_45 : decode cX5_doubt 45 = .ok (.aload_n 0, 1) := by decide +kernel
theorem dX5_doubt_46 : decode cX5_doubt 46 = .ok (.getfield 24, 3) := by decide +kernel
theorem dX5_doubt_49 : decode cX5_doubt 49 = .ok (.getfield 118, 3) := by decide +kernel
theorem dX5_doubt_52 : decode cX5_doubt 52 = .ok (.iload_n 3, 1) := by decide +kernel
theorem dX5_doubt_53 : decode cX5_doubt 53 = .ok (.iaload, 1) := by decide +kernel
theorem dX5_doubt_54 : decode cX5_doubt 54 = .ok (.istore 5, 2) := by decide +kernel
theorem dX5_doubt_56 : decode cX5_doubt 56 = .ok (.aload_n 0, 1) := by decide +kernel
theorem dX5_doubt_57 : decode cX5_doubt 57 = .ok (.getfield 30, 3) := by decide +kernel
theorem dX5_doubt_60 : decode cX5_doubt 60 = .ok (.iload_n 3, 1) := by decide +kernel
theorem dX5_doubt_61 : decode cX5_doubt 61 = .ok (.invokevirtual 197, 3) := by decide +kernel
theorem dX5_doubt_64 : decode cX5_doubt 64 = .ok (.ifCond .eq 39, 3) := by decide +kernel
theorem dX5_doubt_67 : decode cX5_doubt 67 = .ok (.aload_n 0, 1) := by decide +kernel
theorem dX5_doubt_68 : decode cX5_doubt 68 = .ok (.getfield 24, 3) := by decide +kernel
theorem dX5_doubt_71 : decode cX5_doubt 71 = .ok (.iload_n 3, 1) := by decide +kernel
theorem dX5_doubt_72 : decode cX5_doubt 72 = .ok (.invokevirtual 164, 3) := by decide +kernel
theorem dX5_doubt_75 : decode cX5_doubt 75 = .ok (.ifCond .eq 96, 3) := by decide +kernel
theorem dX5_doubt_78 : decode cX5_doubt 78 = .ok (.aload_n 0, 1) := by decide +kernel
theorem dX5_doubt_79 : decode cX5_doubt 79 = .ok (.getfield 30, 3) := by decide +kernel
theorem dX5_doubt_82 : decode cX5_doubt 82 = .ok (.iload 5, 2) := by decide +kernel
theorem dX5_doubt_84 : decode cX5_doubt 84 = .ok (.invokevirtual 197, 3) := by decide +kernel
theorem dX5_doubt_87 : decode cX5_doubt 87 = .ok (.ifCond .ne 84, 3) := by decide +kernel
theorem dX5_doubt_90 : decode cX5_doubt 90 = .ok (.aload_n 0, 1) := by decide +kernel
theorem dX5_doubt_91 : decode cX5_doubt 91 = .ok (.getfield 47, 3) := by decide +kernel
theorem dX5_doubt_94 : decode cX5_doubt 94 = .ok (.iload_n 1, 1) := by decide +kernel
theorem dX5_doubt_95 : decode cX5_doubt 95 = .ok (.iload 4, 2) := by decide +kernel
theorem dX5_doubt_97 : decode cX5_doubt 97 = .ok (.invokevirtual 172, 3) := by decide +kernel
theorem dX5_doubt_100 : decode cX5_doubt 100 = .ok (.goto 71, 3) := by decide +kernel
theorem dX5_doubt_103 : decode cX5_doubt 103 = .ok (.aload_n 0, 1) := by decide +kernel
theorem dX5_doubt_104 : decode cX5_doubt 104 = .ok (.getfield 47, 3) := by decide +kernel
theorem dX5_doubt_107 : decode cX5_doubt 107 = .ok (.iload_n 1, 1) := by decide +kernel
theorem dX5_doubt_108 : decode cX5_doubt 108 = .ok (.iload_n 3, 1) := by decide +kernel
theorem dX5_doubt_109 : decode cX5_doubt 109 = .ok (.invokevirtual 124, 3) := by decide +kernel
theorem dX5_doubt_112 : decode cX5_doubt 112 = .ok (.ifCond .eq 59, 3) := by decide +kernel
theorem dX5_doubt_115 : decode cX5_doubt 115 = .ok (.aload_n 0, 1) := by decide +kernel
theorem dX5_doubt_116 : decode cX5_doubt 116 = .ok (.getfield 24, 3) := by decide +kernel
theorem dX5_doubt_119 : decode cX5_doubt 119 = .ok (.iload_n 3, 1) := by decide +kernel
theorem dX5_doubt_120 : decode cX5_doubt 120 = .ok (.invokevirtual 164, 3) := by decide +kernel
theorem dX5_doubt_123 : decode cX5_doubt 123 = .ok (.ifCond .ne 26, 3) := by decide +kernel
theorem dX5_doubt_126 : decode cX5_doubt 126 = .ok (.aload_n 0, 1) := by decide +kernel
theorem dX5_doubt_127 : decode cX5_doubt 127 = .ok (.getfield 47, 3) := by decide +kernel
theorem dX5_doubt_130 : decode cX5_doubt 130 = .ok (.iload_n 1, 1) := by decide +kernel
theorem dX5_doubt_131 : decode cX5_doubt 131 = .ok (.iload 4, 2) := by decide +kernel
theorem dX5_doubt_133 : decode cX5_doubt 133 = .ok (.invokevirtual 172, 3) := by decide +kernel
theorem dX5_doubt_136 : decode cX5_doubt 136 = .ok (.aload_n 0, 1) := by decide +kernel
theorem dX5_doubt_137 : decode cX5_doubt 137 = .ok (.getfield 47, 3) := by decide +kernel
theorem dX5_doubt_140 : decode cX5_doubt 140 = .ok (.iload_n 1, 1) := by decide +kernel
theorem dX5_doubt_141 : decode cX5_doubt 141 = .ok (.iload 5, 2) := by decide +kernel
theorem dX5_doubt_143 : decode cX5_doubt 143 = .ok (.invokevirtual 172, 3) := by decide +kernel
theorem dX5_doubt_146 : decode cX5_doubt 146 = .ok (.goto 25, 3) := by decide +kernel
theorem dX5_doubt_149 : decode cX5_doubt 149 = .ok (.aload_n 0, 1) := by decide +kernel
theorem dX5_doubt_150 : decode cX5_doubt 150 = .ok (.getfield 30, 3) := by decide +kernel
theorem dX5_doubt_153 : decode cX5_doubt 153 = .ok (.iload 4, 2) := by decide +kernel
theorem dX5_doubt_155 : decode cX5_doubt 155 = .ok (.invokevirtual 197, 3) := by decide +kernel
theorem dX5_doubt_158 : decode cX5_doubt 158 = .ok (.ifCond .eq 13, 3) := by decide +kernel
theorem dX5_doubt_161 : decode cX5_doubt 161 = .ok (.aload_n 0, 1) := by decide +kernel
theorem dX5_doubt_162 : decode cX5_doubt 162 = .ok (.getfield 47, 3) := by decide +kernel
theorem dX5_doubt_165 : decode cX5_doubt 165 = .ok (.iload_n 1, 1) := by decide +kernel
theorem dX5_doubt_166 : decode cX5_doubt 166 = .ok (.iload 5, 2) := by decide +kernel
theorem dX5_doubt_168 : decode cX5_doubt 168 = .ok (.invokevirtual 172, 3) := by decide +kernel
theorem dX5_doubt_171 : decode cX5_doubt 171 = .ok (.iinc 3 (-1), 3) := by decide +kernel
theorem dX5_doubt_174 : decode cX5_doubt 174 = .ok (.goto (-146), 3) := by decide +kernel
theorem dX5_doubt_177 : decode cX5_doubt 177 = .ok (.return_, 1) := by decide +kernel
set_option maxRecDepth 20000 in
theorem ggX5_meet_X3_has : GoodIn wsX5_meet wsX3_has := goodIn_r _ [13, 14, 70] (by decide +kernel) (by decide +kernel)
set_option maxRecDepth 20000 in
theorem gX5_meet_X3_has : GoodIn wsX5_meet (wsV RX5 124 RX3 yX3_has wsX3_has) := goodIn_app (goodIn_of _ (by decide +kernel)) ggX5_meet_X3_has
set_option maxRecDepth 20000 in
theorem ggX5_meet_X2_has : GoodIn wsX5_meet wsX2_has := goodIn_r _ [19, 20, 21, 10, 11, 12, 13, 14, 71, 72, 73, 74, 75, 70] (by decide +kernel) (by decide +kernel)
set_option maxRecDepth 20000 in
theorem gX5_meet_X2_has : GoodIn wsX5_meet (wsV RX5 197 RX2 yX2_has wsX2_has) := goodIn_app (goodIn_of _ (by decide +kernel)) ggX5_meet_X2_has
set_option maxRecDepth 20000 in
theorem ggX5_meet_X3_remove : GoodIn wsX5_meet wsX3_remove := goodIn_r _ [25, 14, 26, 70] (by decide +kernel) (by decide +kernel)
set_option maxRecDepth 20000 in
theorem gX5_meet_X3_remove : GoodIn wsX5_meet (wsV RX5 136 RX3 yX3_remove wsX3_remove) := goodIn_app (goodIn_of _ (by decide +kernel)) ggX5_meet_X3_remove
set_option maxRecDepth 20000 in
theorem ggX5_meet_X1_add : GoodIn wsX5_meet wsX1_add := goodIn_r _ [31, 32, 33, 34, 35, 36, 37, 38, 39, 40, 41, 42, 12, 43, 44, 45, 46, 47, 14, 48, 49, 50, 51, 76, 77, 78, 79, 70] (by decide +kernel) (by decide +kernel)
set_option maxRecDepth 20000 in
theorem gX5_meet_X1_add : GoodIn wsX5_meet (wsV RX5 146 RX1 yX1_add wsX1_add) := goodIn_app (goodIn_of _ (by decide +kernel)) ggX5_meet_X1_add
theorem dX5_meet_0 : decode cX5_meet 0 = .ok (.iconst 0, 1) := by decide +kernel
theorem dX5_meet_1 : decode cX5_meet 1 = .ok (.istore_n 2, 1) := by decide +kernel
theorem dX5_meet_2 : decode cX5_meet 2 = .ok (.iload_n 2, 1) := by decide +kernel
theorem dX5_meet_3 : decode cX5_meet 3 = .ok (.aload_n 0, 1) := by decide +kernel
theorem dX5_meet_4 : decode cX5_meet 4 = .ok (.getfield 24, 3) := by decide +kernel
theorem dX5_meet_7 : decode cX5_meet 7 = .ok (.getfield 163, 3) := by decide +kernel
theorem dX5_meet_10 : decode cX5_meet 10 = .ok (.if_icmp .ge 152, 3) := by decide +kernel
theorem dX5_meet_13 : decode cX5_meet 13 = .ok (.aload_n 0, 1) := by decide +kernel
theorem dX5_meet_14 : decode cX5_meet 14 = .ok (.getfield 50, 3) := by decide +kernel
theorem dX5_meet_17 : decode cX5_meet 17 = .ok (.iload_n 1, 1) := by decide +kernel
theorem dX5_meet_18 : decode cX5_meet 18 = .ok (.aload_n 0, 1) := by decide +kernel
theorem dX5_meet_19 : decode cX5_meet 19 = .ok (.getfield 24, 3) := by decide +kernel
theorem dX5_meet_22 : decode cX5_meet 22 = .ok (.getfield 115, 3) := by decide +kernel
theorem dX5_meet_25 : decode cX5_meet 25 = .ok (.iload_n 2, 1) := by decide +kernel
theorem dX5_meet_26 : decode cX5_meet 26 = .ok (.iaload, 1) := by decide +kernel
theorem dX5_meet_27 : decode cX5_meet 27 = .ok (.invokevirtual 124, 3) := by decide +kernel
theorem dX5_meet_30 : decode cX5_meet 30 = .ok (.istore_n 3, 1) := by decide +kernel
theorem dX5_meet_31 : decode cX5_meet 31 = .ok (.aload_n 0, 1) := by decide +kernel
theorem dX5_meet_32 : decode cX5_meet 32 = .ok (.getfield 50, 3) := by decide +kernel
theorem dX5_meet_35 : decode cX5_meet 35 = .ok (.iload_n 1, 1) := by decide +kernel
theorem dX5_meet_36 : decode cX5_meet 36 = .ok (.aload_n 0, 1) := by decide +kernel
theorem dX5_meet_37 : decode cX5_meet 37 = .ok (.getfield 24, 3) := by decide +kernel
theorem dX5_meet_40 : decode cX5_meet 40 = .ok (.getfield 118, 3) := by decide +kernel
theorem dX5_meet_43 : decode cX5_meet 43 = .ok (.iload_n 2, 1) := by decide +kernel
theorem dX5_meet_44 : decode cX5_meet 44 = .ok (.iaload, 1) := by decide +kernel
theorem dX5_meet_45 : decode cX5_meet 45 = .ok (.invokevirtual 124, 3) := by decide +kernel
theorem dX5_meet_48 : decode cX5_meet 48 = .ok (.istore 4, 2) := by decide +kernel
theorem dX5_meet_50 : decode cX5_meet 50 = .ok (.aload_n 0, 1) := by decide +kernel
theorem dX5_meet_51 : decode cX5_meet 51 = .ok (.getfield 24, 3) := by decide +kernel
theorem dX5_meet_54 : decode cX5_meet 54 = .ok (.getfield 108, 3) := by decide +kernel
theorem dX5_meet_57 : decode cX5_meet 57 = .ok (.iload_n 2, 1) := by decide +kernel
theorem dX5_meet_58 : decode cX5_meet 58 = .ok (.iaload, 1) := by decide +kernel
theorem dX5_meet_59 : decode cX5_meet 59 = .ok (.istore 5, 2) := by decide +kernel
theorem dX5_meet_61 : decode cX5_meet 61 = .ok (.iload 5, 2) := by decide +kernel
theorem dX5_meet_63 : decode cX5_meet 63 = .ok (.iconst 5, 1) := by decide +kernel
theorem dX5_meet_64 : decode cX5_meet 64 = .ok (.if_icmp .gt 14, 3) := by decide +kernel
theorem dX5_meet_67 : decode cX5_meet 67 = .ok (.aload_n 0, 1) := by decide +kernel
theorem dX5_meet_68 : decode cX5_meet 68 = .ok (.getfield 30, 3) := by decide +kernel
theorem dX5_meet_71 : decode cX5_meet 71 = .ok (.iload_n 2, 1) := by decide +kernel
theorem dX5_meet_72 : decode cX5_meet 72 = .ok (.invokevirtual 197, 3) := by decide +kernel
theorem dX5_meet_75 : decode cX5_meet 75 = .ok (.goto 65, 3) := by decide +kernel
theorem dX5_meet_78 : decode cX5_meet 78 = .ok (.iload 5, 2) := by decide +kernel
theorem dX5_meet_80 : decode cX5_meet 80 = .ok (.bipush 7, 2) := by decide +kernel
theorem dX5_meet_82 : decode cX5_meet 82 = .ok (.if_icmp .ne 20, 3) := by decide +kernel
theorem dX5_meet_85 : decode cX5_meet 85 = .ok (.iload_n 3, 1) := by decide +kernel
theorem dX5_meet_86 : decode cX5_meet 86 = .ok (.ifCond .eq 12, 3) := by decide +kernel
theorem dX5_meet_89 : decode cX5_meet 89 = .ok (.iload 4, 2) := by decide +kernel
theorem dX5_meet_91 : decode cX5_meet 91 = .ok (.ifCond .eq 7, 3) := by decide +kernel
theorem dX5_meet_94 : decode cX5_meet 94 = .ok (.iconst 1, 1) := by decide +kernel
theorem dX5_meet_95 : decode cX5_meet 95 = .ok (.goto 45, 3) := by decide +kernel
theorem dX5_meet_98 : decode cX5_meet 98 = .ok (.iconst 0, 1) := by decide +kernel
theorem dX5_meet_99 : decode cX5_meet 99 = .ok (.goto 41, 3) := by decide +kernel
theorem dX5_meet_102 : decode cX5_meet 102 = .ok (.iload 5, 2) := by decide +kernel
theorem dX5_meet_104 : decode cX5_meet 104 = .ok (.bipush 8, 2) := by decide +kernel
theorem dX5_meet_106 : decode cX5_meet 106 = .ok (.if_icmp .ne 20, 3) := by decide +kernel
theorem dX5_meet_109 : decode cX5_meet 109 = .ok (.iload_n 3, 1) := by decide +kernel
theorem dX5_meet_110 : decode cX5_meet 110 = .ok (.ifCond .ne 8, 3) := by decide +kernel
theorem dX5_meet_113 : decode cX5_meet 113 = .ok (.iload 4, 2) := by decide +kernel
theorem dX5_meet_115 : decode cX5_meet 115 = .ok (.ifCond .eq 7, 3) := by decide +kernel
theorem dX5_meet_118 : decode cX5_meet 118 = .ok (.iconst 1, 1) := by decide +kernel
theorem dX5_meet_119 : decode cX5_meet 119 = .ok (.goto 21, 3) := by decide +kernel
theorem dX5_meet_122 : decode cX5_meet 122 = .ok (.iconst 0, 1) := by decide +kernel
theorem dX5_meet_123 : decode cX5_meet 123 = .ok (.goto 17, 3) := by decide +kernel
theorem dX5_meet_126 : decode cX5_meet 126 = .ok (.iload_n 3, 1) := by decide +kernel
theorem dX5_meet_127 : decode cX5_meet 127 = .ok (.ifCond .eq 8, 3) := by decide +kernel
theorem dX5_meet_130 : decode cX5_meet 130 = .ok (.iload 4, 2) := by decide +kernel
theorem dX5_meet_132 : decode cX5_meet 132 = .ok (.ifCond .eq 7, 3) := by decide +kernel
theorem dX5_meet_135 : decode cX5_meet 135 = .ok (.iconst 1, 1) := by decide +kernel
theorem dX5_meet_136 : decode cX5_meet 136 = .ok (.goto 4, 3) := by decide +kernel
theorem dX5_meet_139 : decode cX5_meet 139 = .ok (.iconst 0, 1) := by decide +kernel
theorem dX5_meet_140 : decode cX5_meet 140 = .ok (.istore 6, 2) := by decide +kernel
theorem dX5_meet_142 : decode cX5_meet 142 = .ok (.iload 6, 2) := by decide +kernel
theorem dX5_meet_144 : decode cX5_meet 144 = .ok (.ifCond .ne 12, 3) := by decide +kernel
theorem dX5_meet_147 : decode cX5_meet 147 = .ok (.aload_n 0, 1) := by decide +kernel
theorem dX5_meet_148 : decode cX5_meet 148 = .ok (.getfield 50, 3) := by decide +kernel
theorem dX5_meet_151 : decode cX5_meet 151 = .ok (.iload_n 1, 1) := by decide +kernel
theorem dX5_meet_152 : decode cX5_meet 152 = .ok (.iload_n 2, 1) := by decide +kernel
theorem dX5_meet_153 : decode cX5_meet 153 = .ok (.invokevirtual 136, 3) := by decide +kernel
theorem dX5_meet_156 : decode cX5_meet 156 = .ok (.iinc 2 1, 3) := by decide +kernel
theorem dX5_meet_159 : decode cX5_meet 159 = .ok (.goto (-157), 3) := by decide +kernel
theorem dX5_meet_162 : decode cX5_meet 162 = .ok (.aload_n 0, 1) := by decide +kernel
theorem dX5_meet_163 : decode cX5_meet 163 = .ok (.getfield 59, 3) := by decide +kernel
theorem dX5_meet_166 : decode cX5_meet 166 = .ok (.aload_n 0, 1) := by decide +kernel
theorem dX5_meet_167 : decode cX5_meet 167 = .ok (.getfield 50, 3) := by decide +kernel
theorem dX5_meet_170 : decode cX5_meet 170 = .ok (.iload_n 1, 1) := by decide +kernel
theorem dX5_meet_171 : decode cX5_meet 171 = .ok (.iconst 5, 1) := by decide +kernel
theorem dX5_meet_172 : decode cX5_meet 172 = .ok (.invokevirtual 146, 3) := by decide +kernel
theorem dX5_meet_175 : decode cX5_meet 175 = .ok (.return_, 1) := by decide +kernel
