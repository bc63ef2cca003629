theorem dX10_isKept_79 : decode cX10_isKept 79 = .ok (.imul, 1) := by decide +kernel
theorem dX10_isKept_80 : decode cX10_isKept 80 = .ok (.iload 4, 2) := by decide +kernel
theorem dX10_isKept_82 : decode cX10_isKept 82 = .ok (.iadd, 1) := by decide +kernel
theorem dX10_isKept_83 : decode cX10_isKept 83 = .ok (.iaload, 1) := by decide +kernel
theorem dX10_isKept_84 : decode cX10_isKept 84 = .ok (.goto 4, 3) := by decide +kernel
theorem dX10_isKept_87 : decode cX10_isKept 87 = .ok (.iconst (-1), 1) := by decide +kernel
theorem dX10_isKept_88 : decode cX10_isKept 88 = .ok (.iand, 1) := by decide +kernel
theorem dX10_isKept_89 : decode cX10_isKept 89 = .ok (.istore 5, 2) := by decide +kernel
theorem dX10_isKept_91 : decode cX10_isKept 91 = .ok (.iinc 6 1, 3) := by decide +kernel
theorem dX10_isKept_94 : decode cX10_isKept 94 = .ok (.goto (-44), 3) := by decide +kernel
theorem dX10_isKept_97 : decode cX10_isKept 97 = .ok (.iload 5, 2) := by decide +kernel
theorem dX10_isKept_99 : decode cX10_isKept 99 = .ok (.aload_n 0, 1) := by decide +kernel
theorem dX10_isKept_100 : decode cX10_isKept 100 = .ok (.getfield 48, 3) := by decide +kernel
theorem dX10_isKept_103 : decode cX10_isKept 103 = .ok (.bipush 91, 2) := by decide +kernel
theorem dX10_isKept_105 : decode cX10_isKept 105 = .ok (.aload_n 0, 1) := by decide +kernel
theorem dX10_isKept_106 : decode cX10_isKept 106 = .ok (.getfield 54, 3) := by decide +kernel
theorem dX10_isKept_109 : decode cX10_isKept 109 = .ok (.iconst 0, 1) := by decide +kernel
theorem dX10_isKept_110 : decode cX10_isKept 110 = .ok (.iaload, 1) := by decide +kernel
theorem dX10_isKept_111 : decode cX10_isKept 111 = .ok (.imul, 1) := by decide +kernel
theorem dX10_isKept_112 : decode cX10_isKept 112 = .ok (.iload 4, 2) := by decide +kernel
theorem dX10_isKept_114 : decode cX10_isKept 114 = .ok (.iadd, 1) := by decide +kernel
theorem dX10_isKept_115 : decode cX10_isKept 115 = .ok (.iaload, 1) := by decide +kernel
theorem dX10_isKept_116 : decode cX10_isKept 116 = .ok (.iconst (-1), 1) := by decide +kernel
theorem dX10_isKept_117 : decode cX10_isKept 117 = .ok (.ixor, 1) := by decide +kernel
theorem dX10_isKept_118 : decode cX10_isKept 118 = .ok (.iand, 1) := by decide +kernel
theorem dX10_isKept_119 : decode cX10_isKept 119 = .ok (.ifCond .eq 5, 3) := by decide +kernel
theorem dX10_isKept_122 : decode cX10_isKept 122 = .ok (.iconst 0, 1) := by decide +kernel
theorem dX10_isKept_123 : decode cX10_isKept 123 = .ok (.ireturn, 1) := by decide +kernel
theorem dX10_isKept_124 : decode cX10_isKept 124 = .ok (.iinc 3 1, 3) := by decide +kernel
theorem dX10_isKept_127 : decode cX10_isKept 127 = .ok (.goto (-107), 3) := by decide +kernel
theorem dX10_isKept_130 : decode cX10_isKept 130 = .ok (.iconst 1, 1) := by decide +kernel
theorem dX10_isKept_131 : decode cX10_isKept 131 = .ok (.ireturn, 1) := by decide +kernel
set_option maxRecDepth 20000 in
theorem ggX10_follows_X10_isBad_h : GoodIn wsX10_follows [Cond.code yX10_isBad cX10_isBad 2 (some .boolean)] := goodIn_r _ [5] (by decide +kernel) (by decide +kernel)
set_option maxRecDepth 20000 in
theorem ggX10_follows_X10_isBad_0 : GoodIn wsX10_follows ([.methodLink RX10 66 yX10_in, .static yX10_in, .initialized RX10, .code yX10_in cX10_in 3 (some .boolean), .methodLink RX10 166 yX10_places, .instanceMethod yX10_places, .selects RX10 yX10_places yX10_places, .code yX10_places cX10_places 3 (some .int), .methodLink RX10 163 yX10_noClaim, .instanceMethod yX10_noClaim, .selects RX10 yX10_noClaim yX10_noClaim, .code yX10_noClaim cX10_noClaim 2 (some .boolean), .fieldLink RX10 7 "StageTruthsModel" "now" "[I", .methodLink RX10 70 yX10_noPlace, .static yX10_noPlace, .code yX10_noPlace cX10_noPlace 1 (some .boolean)] : List Cond) := goodIn_r _ [6, 7, 4, 8, 9, 10, 11, 12, 13, 14, 15, 16, 17, 18, 19, 20] (by decide +kernel) (by decide +kernel)
set_option maxRecDepth 20000 in
theorem ggX10_follows_X10_isBad_1 : GoodIn wsX10_follows wsX100 := goodIn_r _ [141, 142, 143, 144, 145, 146, 147, 148, 149, 150, 151, 152, 153, 154, 155, 156, 157, 158, 159, 160, 161, 162, 163, 164, 165] (by decide +kernel) (by decide +kernel)
theorem ggX10_follows_X10_isBad : GoodIn wsX10_follows wsX10_isBad := goodIn_app ggX10_follows_X10_isBad_h (goodIn_app ggX10_follows_X10_isBad_0 ggX10_follows_X10_isBad_1)
set_option maxRecDepth 20000 in
theorem gX10_follows_X10_isBad : GoodIn wsX10_follows (wsV RX10 264 RX10 yX10_isBad wsX10_isBad) := goodIn_app (goodIn_of _ (by decide +kernel)) ggX10_follows_X10_isBad
set_option maxRecDepth 20000 in
theorem ggX10_follows_X10_noClaim : GoodIn wsX10_follows wsX10_noClaim := goodIn_r _ [16, 17, 18, 19, 4, 20, 6, 7, 8, 141, 142, 143, 144, 145, 146, 147, 148, 149, 150, 151, 152, 153, 154, 155, 156, 157, 158, 159, 160, 161, 162, 163, 164, 165] (by decide +kernel) (by decide +kernel)
set_option maxRecDepth 20000 in
theorem gX10_follows_X10_noClaim : GoodIn wsX10_follows (wsV RX10 163 RX10 yX10_noClaim wsX10_noClaim) := goodIn_app (goodIn_of _ (by decide +kernel)) ggX10_follows_X10_noClaim
set_option maxRecDepth 20000 in
theorem ggX10_follows_X10_isFollowing_h : GoodIn wsX10_follows [Cond.code yX10_isFollowing cX10_isFollowing 3 (some .boolean)] := goodIn_r _ [24] (by decide +kernel) (by decide +kernel)
set_option maxRecDepth 20000 in
theorem ggX10_follows_X10_isFollowing_0 : GoodIn wsX10_follows wsX10_isFollowing_r1 := goodIn_r _ [25, 26, 27, 4, 28, 29, 30, 31, 32, 33, 34, 35, 36, 37, 38, 39, 40, 41, 42, 43, 44, 45, 46, 47] (by decide +kernel) (by decide +kernel)
set_option maxRecDepth 20000 in
theorem ggX10_follows_X10_isFollowing_1 : GoodIn wsX10_follows wsX10_isFollowing_r2 := goodIn_r _ [48, 49, 50, 51, 52, 53, 54, 55, 56, 57, 58, 59, 60, 61, 62, 63, 64, 65, 66, 67, 68, 69, 70, 71] (by decide +kernel) (by decide +kernel)
set_option maxRecDepth 20000 in
theorem ggX10_follows_X10_isFollowing_2 : GoodIn wsX10_follows wsX10_isFollowing_r3 := goodIn_r _ [72, 73, 17, 74, 75, 76, 77, 78, 79, 80, 81, 82, 83, 84, 85, 86, 87, 88, 89, 90, 91, 92, 93, 94] (by decide +kernel) (by decide +kernel)
set_option maxRecDepth 20000 in
theorem ggX10_follows_X10_isFollowing_3 : GoodIn wsX10_follows wsX10_isFollowing_r4 := goodIn_r _ [95, 96, 97, 98, 99, 100, 101, 102, 103, 104, 105, 106, 107, 108, 109, 110, 111, 112, 113, 114, 115, 116, 117, 118] (by decide +kernel) (by decide +kernel)
set_option maxRecDepth 20000 in
theorem ggX10_follows_X10_isFollowing_4 : GoodIn wsX10_follows wsX10_isFollowing_r5 := goodIn_r _ [119, 120, 121, 122, 123, 124, 125, 126, 127, 128, 129, 130, 131, 132, 133, 134, 135, 136, 137, 138, 139, 140] (by decide +kernel) (by decide +kernel)
set_option maxRecDepth 20000 in
theorem ggX10_follows_X10_isFollowing_5 : GoodIn wsX10_follows wsX100 := goodIn_r _ [141, 142, 143, 144, 145, 146, 147, 148, 149, 150, 151, 152, 153, 154, 155, 156, 157, 158, 159, 160, 161, 162, 163, 164, 165] (by decide +kernel) (by decide +kernel)
theorem ggX10_follows_X10_isFollowing : GoodIn wsX10_follows wsX10_isFollowing := goodIn_app ggX10_follows_X10_isFollowing_h (goodIn_app (goodIn_app ggX10_follows_X10_isFollowing_0 (goodIn_app ggX10_follows_X10_isFollowing_1 (goodIn_app ggX10_follows_X10_isFollowing_2 (goodIn_app ggX10_follows_X10_isFollowing_3 ggX10_follows_X10_isFollowing_4)))) ggX10_follows_X10_isFollowing_5)
set_option maxRecDepth 20000 in
theorem gX10_follows_X10_isFollowing : GoodIn wsX10_follows (wsV RX10 267 RX10 yX10_isFollowing wsX10_isFollowing) := goodIn_app (goodIn_of _ (by decide +kernel)) ggX10_follows_X10_isFollowing
theorem dX10_follows_0 : decode cX10_follows 0 = .ok (.aload_n 0, 1) := by decide +kernel
theorem dX10_follows_1 : decode cX10_follows 1 = .ok (.iload_n 1, 1) := by decide +kernel
theorem dX10_follows_2 : decode cX10_follows 2 = .ok (.invokevirtual 264, 3) := by decide +kernel
theorem dX10_follows_5 : decode cX10_follows 5 = .ok (.ifCond .eq 6, 3) := by decide +kernel
theorem dX10_follows_8 : decode cX10_follows 8 = .ok (.bipush (-2), 2) := by decide +kernel
theorem dX10_follows_10 : decode cX10_follows 10 = .ok (.ireturn, 1) := by decide +kernel
theorem dX10_follows_11 : decode cX10_follows 11 = .ok (.aload_n 0, 1) := by decide +kernel
theorem dX10_follows_12 : decode cX10_follows 12 = .ok (.iload_n 2, 1) := by decide +kernel
theorem dX10_follows_13 : decode cX10_follows 13 = .ok (.invokevirtual 163, 3) := by decide +kernel
theorem dX10_follows_16 : decode cX10_follows 16 = .ok (.ifCond .eq 5, 3) := by decide +kernel
theorem dX10_follows_19 : decode cX10_follows 19 = .ok (.iconst (-1), 1) := by decide +kernel
theorem dX10_follows_20 : decode cX10_follows 20 = .ok (.ireturn, 1) := by decide +kernel
theorem dX10_follows_21 : decode cX10_follows 21 = .ok (.aload_n 0, 1) := by decide +kernel
theorem dX10_follows_22 : decode cX10_follows 22 = .ok (.iload_n 1, 1) := by decide +kernel
theorem dX10_follows_23 : decode cX10_follows 23 = .ok (.iload_n 2, 1) := by decide +kernel
theorem dX10_follows_24 : decode cX10_follows 24 = .ok (.invokevirtual 267, 3) := by decide +kernel
theorem dX10_follows_27 : decode cX10_follows 27 = .ok (.ifCond .eq 7, 3) := by decide +kernel
theorem dX10_follows_30 : decode cX10_follows 30 = .ok (.iconst 1, 1) := by decide +kernel
theorem dX10_follows_31 : decode cX10_follows 31 = .ok (.goto 4, 3) := by decide +kernel
theorem dX10_follows_34 : decode cX10_follows 34 = .ok (.iconst 0, 1) := by decide +kernel
theorem dX10_follows_35 : decode cX10_follows 35 = .ok (.ireturn, 1) := by decide +kernel
set_option maxRecDepth 20000 in
theorem ggX10_followsPlainly_X10_isBad_h : GoodIn wsX10_followsPlainly [Cond.code yX10_isBad cX10_isBad 2 (some .boolean)] := goodIn_r _ [5] (by decide +kernel) (by decide +kernel)
set_option maxRecDepth 20000 in
theorem ggX10_followsPlainly_X10_isBad_0 : GoodIn wsX10_followsPlainly ([.methodLink RX10 66 yX10_in, .static yX10_in, .initialized RX10, .code yX10_in cX10_in 3 (some .boolean), .methodLink RX10 166 yX10_places, .instanceMethod yX10_places, .selects RX10 yX10_places yX10_places, .code yX10_places cX10_places 3 (some .int), .methodLink RX10 163 yX10_noClaim, .instanceMethod yX10_noClaim, .selects RX10 yX10_noClaim yX10_noClaim, .code yX10_noClaim cX10_noClaim 2 (some .boolean), .fieldLink RX10 7 "StageTruthsModel" "now" "[I", .methodLink RX10 70 yX10_noPlace, .static yX10_noPlace, .code yX10_noPlace cX10_noPlace 1 (some .boolean)] : List Cond) := goodIn_r _ [6, 7, 4, 8, 9, 10, 11, 12, 13, 14, 15, 16, 17, 18, 19, 20] (by decide +kernel) (by decide +kernel)
set_option maxRecDepth 20000 in
theorem ggX10_followsPlainly_X10_isBad_1 : GoodIn wsX10_followsPlainly wsX100 := goodIn_r _ [98, 99, 100, 101, 102, 103, 104, 105, 106, 107, 108, 109, 110, 111, 112, 113, 114, 115, 116, 117, 118, 119, 120, 121, 122] (by decide +kernel) (by decide +kernel)
theorem ggX10_followsPlainly_X10_isBad : GoodIn wsX10_followsPlainly wsX10_isBad := goodIn_app ggX10_followsPlainly_X10_isBad_h (goodIn_app ggX10_followsPlainly_X10_isBad_0 ggX10_followsPlainly_X10_isBad_1)
set_option maxRecDepth 20000 in
theorem gX10_followsPlainly_X10_isBad : GoodIn wsX10_followsPlainly (wsV RX10 264 RX10 yX10_isBad wsX10_isBad) := goodIn_app (goodIn_of _ (by decide +kernel)) ggX10_followsPlainly_X10_isBad
set_option maxRecDepth 20000 in
theorem ggX10_followsPlainly_X10_noClaim : GoodIn wsX10_followsPlainly wsX10_noClaim := goodIn_r _ [16, 17, 18, 19, 4, 20, 6, 7, 8, 98, 99, 100, 101, 102, 103, 104, 105, 106, 107, 108, 109, 110, 111, 112, 113, 114, 115, 116, 117, 118, 119, 120, 121, 122] (by decide +kernel) (by decide +kernel)
set_option maxRecDepth 20000 in
theorem gX10_followsPlainly_X10_noClaim : GoodIn wsX10_followsPlainly (wsV RX10 163 RX10 yX10_noClaim wsX10_noClaim) := goodIn_app (goodIn_of _ (by decide +kernel)) ggX10_followsPlainly_X10_noClaim
set_option maxRecDepth 20000 in
theorem ggX10_followsPlainly_X10_sets_h : GoodIn wsX10_followsPlainly [Cond.code yX10_sets cX10_sets 4 none] := goodIn_r _ [24] (by decide +kernel) (by decide +kernel)
set_option maxRecDepth 20000 in
theorem ggX10_followsPlainly_X10_sets_0 : GoodIn wsX10_followsPlainly wsX10_sets_r1 := goodIn_r _ [25, 26, 27, 28, 29, 4, 30, 31, 32, 33, 34, 35, 36, 37, 38, 39, 40, 41, 42, 43, 44, 45, 46, 47] (by decide +kernel) (by decide +kernel)
set_option maxRecDepth 20000 in
theorem ggX10_followsPlainly_X10_sets_1 : GoodIn wsX10_followsPlainly wsX10_sets_r2 := goodIn_r _ [48, 49, 50, 51, 52, 53, 54, 55, 56, 57, 58, 59, 60, 61, 62, 63, 64, 65, 66, 67, 68, 69, 17, 70] (by decide +kernel) (by decide +kernel)
set_option maxRecDepth 20000 in
theorem ggX10_followsPlainly_X10_sets_2 : GoodIn wsX10_followsPlainly wsX10_sets_r3 := goodIn_r _ [71, 72, 73, 74, 75, 76, 77, 78, 79, 80, 81, 82, 83, 84, 85, 86] (by decide +kernel) (by decide +kernel)
set_option maxRecDepth 20000 in
theorem ggX10_followsPlainly_X10_sets_3 : GoodIn wsX10_followsPlainly wsX100 := goodIn_r _ [98, 99, 100, 101, 102, 103, 104, 105, 106, 107, 108, 109, 110, 111, 112, 113, 114, 115, 116, 117, 118, 119, 120, 121, 122] (by decide +kernel) (by decide +kernel)
theorem ggX10_followsPlainly_X10_sets : GoodIn wsX10_followsPlainly wsX10_sets := goodIn_app ggX10_followsPlainly_X10_sets_h (goodIn_app (goodIn_app ggX10_followsPlainly_X10_sets_0 (goodIn_app ggX10_followsPlainly_X10_sets_1 ggX10_followsPlainly_X10_sets_2)) ggX10_followsPlainly_X10_sets_3)
set_option maxRecDepth 20000 in
theorem gX10_followsPlainly_X10_sets : GoodIn wsX10_followsPlainly (wsV RX10 258 RX10 yX10_sets wsX10_sets) := goodIn_app (goodIn_of _ (by decide +kernel)) ggX10_followsPlainly_X10_sets
set_option maxRecDepth 20000 in
theorem ggX10_followsPlainly_X10_isKept_h : GoodIn wsX10_followsPlainly [Cond.code yX10_isKept cX10_isKept 7 (some .boolean)] := goodIn_r _ [90] (by decide +kernel) (by decide +kernel)
set_option maxRecDepth 20000 in
theorem ggX10_followsPlainly_X10_isKept_0 : GoodIn wsX10_followsPlainly ([.fieldLink RX10 172 "StageTruthsModel" "parts" "I", .fieldLink RX10 48 "StageTruthsModel" "where" "[I", .fieldLink RX10 54 "StageTruthsModel" "goal" "[I", .methodLink RX10 185 yX10_wordsOf, .static yX10_wordsOf, .initialized RX10, .code yX10_wordsOf cX10_wordsOf 1 (some .int), .methodLink RX10 188 yX10_begin, .static yX10_begin, .code yX10_begin cX10_begin 1 (some .int), .methodLink RX10 198 yX10_models, .static yX10_models, .code yX10_models cX10_models 1 (some .int), .methodLink RX10 215 yX10_wordEnd, .static yX10_wordEnd, .code yX10_wordEnd cX10_wordEnd 4 (some .int), .methodLink RX10 218 yX10_has, .instanceMethod yX10_has, .selects RX10 yX10_has yX10_has, .code yX10_has cX10_has 3 (some .boolean), .fieldLink RX10 51 "StageTruthsModel" "given" "[I"] : List Cond) := goodIn_r _ [31, 43, 26, 44, 45, 4, 46, 47, 48, 49, 53, 54, 55, 91, 92, 93, 94, 95, 96, 97, 25] (by decide +kernel) (by decide +kernel)
set_option maxRecDepth 20000 in
theorem ggX10_followsPlainly_X10_isKept_1 : GoodIn wsX10_followsPlainly wsX100 := goodIn_r _ [98, 99, 100, 101, 102, 103, 104, 105, 106, 107, 108, 109, 110, 111, 112, 113, 114, 115, 116, 117, 118, 119, 120, 121, 122] (by decide +kernel) (by decide +kernel)
theorem ggX10_followsPlainly_X10_isKept : GoodIn wsX10_followsPlainly wsX10_isKept := goodIn_app ggX10_followsPlainly_X10_isKept_h (goodIn_app ggX10_followsPlainly_X10_isKept_0 ggX10_followsPlainly_X10_isKept_1)
set_option maxRecDepth 20000 in
theorem gX10_followsPlainly_X10_isKept : GoodIn wsX10_followsPlainly (wsV RX10 270 RX10 yX10_isKept wsX10_isKept) := goodIn_app (goodIn_of _ (by decide +kernel)) ggX10_followsPlainly_X10_isKept
theorem dX10_followsPlainly_0 : decode cX10_followsPlainly 0 = .ok (.aload_n 0, 1) := by decide +kernel
theorem dX10_followsPlainly_1 : decode cX10_followsPlainly 1 = .ok (.iload_n 1, 1) := by decide +kernel
theorem dX10_followsPlainly_2 : decode cX10_followsPlainly 2 = .ok (.invokevirtual 264, 3) := by decide +kernel
theorem dX10_followsPlainly_5 : decode cX10_followsPlainly 5 = .ok (.ifCond .eq 6, 3) := by decide +kernel
theorem dX10_followsPlainly_8 : decode cX10_followsPlainly 8 = .ok (.bipush (-2), 2) := by decide +kernel
theorem dX10_followsPlainly_10 : decode cX10_followsPlainly 10 = .ok (.ireturn, 1) := by decide +kernel
theorem dX10_followsPlainly_11 : decode cX10_followsPlainly 11 = .ok (.aload_n 0, 1) := by decide +kernel
theorem dX10_followsPlainly_12 : decode cX10_followsPlainly 12 = .ok (.iload_n 2, 1) := by decide +kernel
theorem dX10_followsPlainly_13 : decode cX10_followsPlainly 13 = .ok (.invokevirtual 163, 3) := by decide +kernel
theorem dX10_followsPlainly_16 : decode cX10_followsPlainly 16 = .ok (.ifCond .eq 5, 3) := by decide +kernel
theorem dX10_followsPlainly_19 : decode cX10_followsPlainly 19 = .ok (.iconst (-1), 1) := by decide +kernel
theorem dX10_followsPlainly_20 : decode cX10_followsPlainly 20 = .ok (.ireturn, 1) := by decide +kernel
theorem dX10_followsPlainly_21 : decode cX10_followsPlainly 21 = .ok (.aload_n 0, 1) := by decide +kernel
theorem dX10_followsPlainly_22 : decode cX10_followsPlainly 22 = .ok (.iload_n 1, 1) := by decide +kernel
theorem dX10_followsPlainly_23 : decode cX10_followsPlainly 23 = .ok (.iload_n 2, 1) := by decide +kernel
theorem dX10_followsPlainly_24 : decode cX10_followsPlainly 24 = .ok (.invokevirtual 258, 3) := by decide +kernel
theorem dX10_followsPlainly_27 : decode cX10_followsPlainly 27 = .ok (.aload_n 0, 1) := by decide +kernel
theorem dX10_followsPlainly_28 : decode cX10_followsPlainly 28 = .ok (.iconst 0, 1) := by decide +kernel
theorem dX10_followsPlainly_29 : decode cX10_followsPlainly 29 = .ok (.invokevirtual 270, 3) := by decide +kernel
theorem dX10_followsPlainly_32 : decode cX10_followsPlainly 32 = .ok (.ifCond .eq 7, 3) := by decide +kernel
theorem dX10_followsPlainly_35 : decode cX10_followsPlainly 35 = .ok (.iconst 1, 1) := by decide +kernel
theorem dX10_followsPlainly_36 : decode cX10_followsPlainly 36 = .ok (.goto 4, 3) := by decide +kernel
theorem dX10_followsPlainly_39 : decode cX10_followsPlainly 39 = .ok (.iconst 0, 1) := by decide +kernel
theorem dX10_followsPlainly_40 : decode cX10_followsPlainly 40 = .ok (.ireturn, 1) := by decide +kernel
set_option maxRecDepth 20000 in
theorem ggX10_fewestStages_X10_isBad_h : GoodIn wsX10_fewestStages [Cond.code yX10_isBad cX10_isBad 2 (some .boolean)] := goodIn_r _ [5] (by decide +kernel) (by decide +kernel)
set_option maxRecDepth 20000 in
theorem ggX10_fewestStages_X10_isBad_0 : GoodIn wsX10_fewestStages ([.methodLink RX10 66 yX10_in, .static yX10_in, .initialized RX10, .code yX10_in cX10_in 3 (some .boolean), .methodLink RX10 166 yX10_places, .instanceMethod yX10_places, .selects RX10 yX10_places yX10_places, .code yX10_places cX10_places 3 (some .int), .methodLink RX10 163 yX10_noClaim, .instanceMethod yX10_noClaim, .selects RX10 yX10_noClaim yX10_noClaim, .code yX10_noClaim cX10_noClaim 2 (some .boolean), .fieldLink RX10 7 "StageTruthsModel" "now" "[I", .methodLink RX10 70 yX10_noPlace, .static yX10_noPlace, .code yX10_noPlace cX10_noPlace 1 (some .boolean)] : List Cond) := goodIn_r _ [6, 7, 4, 8, 9, 10, 11, 12, 13, 14, 15, 16, 17, 18, 19, 20] (by decide +kernel) (by decide +kernel)
set_option maxRecDepth 20000 in
theorem ggX10_fewestStages_X10_isBad_1 : GoodIn wsX10_fewestStages wsX100 := goodIn_r _ [98, 99, 100, 101, 102, 103, 104, 105, 106, 107, 108, 109, 110, 111, 112, 113, 114, 115, 116, 117, 118, 119, 120, 121, 122] (by decide +kernel) (by decide +kernel)
theorem ggX10_fewestStages_X10_isBad : GoodIn wsX10_fewestStages wsX10_isBad := goodIn_app ggX10_fewestStages_X10_isBad_h (goodIn_app ggX10_fewestStages_X10_isBad_0 ggX10_fewestStages_X10_isBad_1)
set_option maxRecDepth 20000 in
theorem gX10_fewestStages_X10_isBad : GoodIn wsX10_fewestStages (wsV RX10 264 RX10 yX10_isBad wsX10_isBad) := goodIn_app (goodIn_of _ (by decide +kernel)) ggX10_fewestStages_X10_isBad
set_option maxRecDepth 20000 in
theorem ggX10_fewestStages_X10_noClaim : GoodIn wsX10_fewestStages wsX10_noClaim := goodIn_r _ [16, 17, 18, 19, 4, 20, 6, 7, 8, 98, 99, 100, 101, 102, 103, 104, 105, 106, 107, 108, 109, 110, 111, 112, 113, 114, 115, 116, 117, 118, 119, 120, 121, 122] (by decide +kernel) (by decide +kernel)
set_option maxRecDepth 20000 in
theorem gX10_fewestStages_X10_noClaim : GoodIn wsX10_fewestStages (wsV RX10 163 RX10 yX10_noClaim wsX10_noClaim) := goodIn_app (goodIn_of _ (by decide +kernel)) ggX10_fewestStages_X10_noClaim
set_option maxRecDepth 20000 in
theorem ggX10_fewestStages_X10_sets_h : GoodIn wsX10_fewestStages [Cond.code yX10_sets cX10_sets 4 none] := goodIn_r _ [24] (by decide +kernel) (by decide +kernel)
set_option maxRecDepth 20000 in
theorem ggX10_fewestStages_X10_sets_0 : GoodIn wsX10_fewestStages wsX10_sets_r1 := goodIn_r _ [25, 26, 27, 28, 29, 4, 30, 31, 32, 33, 34, 35, 36, 37, 38, 39, 40, 41, 42, 43, 44, 45, 46, 47] (by decide +kernel) (by decide +kernel)
set_option maxRecDepth 20000 in
theorem ggX10_fewestStages_X10_sets_1 : GoodIn wsX10_fewestStages wsX10_sets_r2 := goodIn_r _ [48, 49, 50, 51, 52, 53, 54, 55, 56, 57, 58, 59, 60, 61, 62, 63, 64, 65, 66, 67, 68, 69, 17, 70] (by decide +kernel) (by decide +kernel)
set_option maxRecDepth 20000 in
theorem ggX10_fewestStages_X10_sets_2 : GoodIn wsX10_fewestStages wsX10_sets_r3 := goodIn_r _ [71, 72, 73, 74, 75, 76, 77, 78, 79, 80, 81, 82, 83, 84, 85, 86] (by decide +kernel) (by decide +kernel)
set_option maxRecDepth 20000 in
theorem ggX10_fewestStages_X10_sets_3 : GoodIn wsX10_fewestStages wsX100 := goodIn_r _ [98, 99, 100, 101, 102, 103, 104, 105, 106, 107, 108, 109, 110, 111, 112, 113, 114, 115, 116, 117, 118, 119, 120, 121, 122] (by decide +kernel) (by decide +kernel)
theorem ggX10_fewestStages_X10_sets : GoodIn wsX10_fewestStages wsX10_sets := goodIn_app ggX10_fewestStages_X10_sets_h (goodIn_app (goodIn_app ggX10_fewestStages_X10_sets_0 (goodIn_app ggX10_fewestStages_X10_sets_1 ggX10_fewestStages_X10_sets_2)) ggX10_fewestStages_X10_sets_3)
set_option maxRecDepth 20000 in
theorem gX10_fewestStages_X10_sets : GoodIn wsX10_fewestStages (wsV RX10 258 RX10 yX10_sets wsX10_sets) := goodIn_app (goodIn_of _ (by decide +kernel)) ggX10_fewestStages_X10_sets
set_option maxRecDepth 20000 in
theorem ggX10_fewestStages_X10_isKept_h : GoodIn wsX10_fewestStages [Cond.code yX10_isKept cX10_isKept 7 (some .boolean)] := goodIn_r _ [90] (by decide +kernel) (by decide +kernel)
set_option maxRecDepth 20000 in
theorem ggX10_fewestStages_X10_isKept_0 : GoodIn wsX10_fewestStages ([.fieldLink RX10 172 "StageTruthsModel" "parts" "I", .fieldLink RX10 48 "StageTruthsModel" "where" "[I", .fieldLink RX10 54 "StageTruthsModel" "goal" "[I", .methodLink RX10 185 yX10_wordsOf, .static yX10_wordsOf, .initialized RX10, .code yX10_wordsOf cX10_wordsOf 1 (some .int), .methodLink RX10 188 yX10_begin, .static yX10_begin, .code yX10_begin cX10_begin 1 (some .int), .methodLink RX10 198 yX10_models, .static yX10_models, .code yX10_models cX10_models 1 (some .int), .methodLink RX10 215 yX10_wordEnd, .static yX10_wordEnd, .code yX10_wordEnd cX10_wordEnd 4 (some .int), .methodLink RX10 218 yX10_has, .instanceMethod yX10_has, .selects RX10 yX10_has yX10_has, .code yX10_has cX10_has 3 (some .boolean), .fieldLink RX10 51 "StageTruthsModel" "given" "[I"] : List Cond) := goodIn_r _ [31, 43, 26, 44, 45, 4, 46, 47, 48, 49, 53, 54, 55, 91, 92, 93, 94, 95, 96, 97, 25] (by decide +kernel) (by decide +kernel)
set_option maxRecDepth 20000 in
theorem ggX10_fewestStages_X10_isKept_1 : GoodIn wsX10_fewestStages wsX100 := goodIn_r _ [98, 99, 100, 101, 102, 103, 104, 105, 106, 107, 108, 109, 110, 111, 112, 113, 114, 115, 116, 117, 118, 119, 120, 121, 122] (by decide +kernel) (by decide +kernel)
theorem ggX10_fewestStages_X10_isKept : GoodIn wsX10_fewestStages wsX10_isKept := goodIn_app ggX10_fewestStages_X10_isKept_h (goodIn_app ggX10_fewestStages_X10_isKept_0 ggX10_fewestStages_X10_isKept_1)
set_option maxRecDepth 20000 in
theorem gX10_fewestStages_X10_isKept : GoodIn wsX10_fewestStages (wsV RX10 270 RX10 yX10_isKept wsX10_isKept) := goodIn_app (goodIn_of _ (by decide +kernel)) ggX10_fewestStages_X10_isKept
theorem dX10_fewestStages_0 : decode cX10_fewestStages 0 = .ok (.aload_n 0, 1) := by decide +kernel
theorem dX10_fewestStages_1 : decode cX10_fewestStages 1 = .ok (.iload_n 1, 1) := by decide +kernel
theorem dX10_fewestStages_2 : decode cX10_fewestStages 2 = .ok (.invokevirtual 264, 3) := by decide +kernel
theorem dX10_fewestStages_5 : decode cX10_fewestStages 5 = .ok (.ifCond .eq 6, 3) := by decide +kernel
theorem dX10_fewestStages_8 : decode cX10_fewestStages 8 = .ok (.bipush (-2), 2) := by decide +kernel
theorem dX10_fewestStages_10 : decode cX10_fewestStages 10 = .ok (.ireturn, 1) := by decide +kernel
theorem dX10_fewestStages_11 : decode cX10_fewestStages 11 = .ok (.aload_n 0, 1) := by decide +kernel
theorem dX10_fewestStages_12 : decode cX10_fewestStages 12 = .ok (.iload_n 2, 1) := by decide +kernel
theorem dX10_fewestStages_13 : decode cX10_fewestStages 13 = .ok (.invokevirtual 163, 3) := by decide +kernel
theorem dX10_fewestStages_16 : decode cX10_fewestStages 16 = .ok (.ifCond .eq 5, 3) := by decide +kernel
theorem dX10_fewestStages_19 : decode cX10_fewestStages 19 = .ok (.iconst (-1), 1) := by decide +kernel
theorem dX10_fewestStages_20 : decode cX10_fewestStages 20 = .ok (.ireturn, 1) := by decide +kernel
theorem dX10_fewestStages_21 : decode cX10_fewestStages 21 = .ok (.aload_n 0, 1) := by decide +kernel
theorem dX10_fewestStages_22 : decode cX10_fewestStages 22 = .ok (.iload_n 1, 1) := by decide +kernel
theorem dX10_fewestStages_23 : decode cX10_fewestStages 23 = .ok (.iload_n 2, 1) := by decide +kernel
theorem dX10_fewestStages_24 : decode cX10_fewestStages 24 = .ok (.invokevirtual 258, 3) := by decide +kernel
theorem dX10_fewestStages_27 : decode cX10_fewestStages 27 = .ok (.aload_n 0, 1) := by decide +kernel
theorem dX10_fewestStages_28 : decode cX10_fewestStages 28 = .ok (.iconst 0, 1) := by decide +kernel
theorem dX10_fewestStages_29 : decode cX10_fewestStages 29 = .ok (.invokevirtual 270, 3) := by decide +kernel
theorem dX10_fewestStages_32 : decode cX10_fewestStages 32 = .ok (.ifCond .ne 7, 3) := by decide +kernel
theorem dX10_fewestStages_35 : decode cX10_fewestStages 35 = .ok (.iconst 1, 1) := by decide +kernel
theorem dX10_fewestStages_36 : decode cX10_fewestStages 36 = .ok (.goto 37, 3) := by decide +kernel
theorem dX10_fewestStages_39 : decode cX10_fewestStages 39 = .ok (.aload_n 0, 1) := by decide +kernel
theorem dX10_fewestStages_40 : decode cX10_fewestStages 40 = .ok (.iconst 1, 1) := by decide +kernel
theorem dX10_fewestStages_41 : decode cX10_fewestStages 41 = .ok (.invokevirtual 270, 3) := by decide +kernel
theorem dX10_fewestStages_44 : decode cX10_fewestStages 44 = .ok (.ifCond .ne 7, 3) := by decide +kernel
theorem dX10_fewestStages_47 : decode cX10_fewestStages 47 = .ok (.iconst 2, 1) := by decide +kernel
theorem dX10_fewestStages_48 : decode cX10_fewestStages 48 = .ok (.goto 25, 3) := by decide +kernel
theorem dX10_fewestStages_51 : decode cX10_fewestStages 51 = .ok (.aload_n 0, 1) := by decide +kernel
theorem dX10_fewestStages_52 : decode cX10_fewestStages 52 = .ok (.iconst 2, 1) := by decide +kernel
theorem dX10_fewestStages_53 : decode cX10_fewestStages 53 = .ok (.invokevirtual 270, 3) := by decide +kernel
theorem dX10_fewestStages_56 : decode cX10_fewestStages 56 = .ok (.ifCond .eq 11, 3) := by decide +kernel
theorem dX10_fewestStages_59 : decode cX10_fewestStages 59 = .ok (.aload_n 0, 1) := by decide +kernel
theorem dX10_fewestStages_60 : decode cX10_fewestStages 60 = .ok (.iconst 3, 1) := by decide +kernel
theorem dX10_fewestStages_61 : decode cX10_fewestStages 61 = .ok (.invokevirtual 270, 3) := by decide +kernel
theorem dX10_fewestStages_64 : decode cX10_fewestStages 64 = .ok (.ifCond .ne 7, 3) := by decide +kernel
theorem dX10_fewestStages_67 : decode cX10_fewestStages 67 = .ok (.iconst 3, 1) := by decide +kernel
theorem dX10_fewestStages_68 : decode cX10_fewestStages 68 = .ok (.goto 5, 3) := by decide +kernel
theorem dX10_fewestStages_71 : decode cX10_fewestStages 71 = .ok (.bipush (-5), 2) := by decide +kernel
theorem dX10_fewestStages_73 : decode cX10_fewestStages 73 = .ok (.ireturn, 1) := by decide +kernel
set_option maxRecDepth 20000 in
theorem ggX10_fewestPremises_X10_isBad_h : GoodIn wsX10_fewestPremises [Cond.code yX10_isBad cX10_isBad 2 (some .boolean)] := goodIn_r _ [5] (by decide +kernel) (by decide +kernel)
set_option maxRecDepth 20000 in
theorem ggX10_fewestPremises_X10_isBad_0 : GoodIn wsX10_fewestPremises ([.methodLink RX10 66 yX10_in, .static yX10_in, .initialized RX10, .code yX10_in cX10_in 3 (some .boolean), .methodLink RX10 166 yX10_places, .instanceMethod yX10_places, .selects RX10 yX10_places yX10_places, .code yX10_places cX10_places 3 (some .int), .methodLink RX10 163 yX10_noClaim, .instanceMethod yX10_noClaim, .selects RX10 yX10_noClaim yX10_noClaim, .code yX10_noClaim cX10_noClaim 2 (some .boolean), .fieldLink RX10 7 "StageTruthsModel" "now" "[I", .methodLink RX10 70 yX10_noPlace, .static yX10_noPlace, .code yX10_noPlace cX10_noPlace 1 (some .boolean)] : List Cond) := goodIn_r _ [6, 7, 4, 8, 9, 10, 11, 12, 13, 14, 15, 16, 17, 18, 19, 20] (by decide +kernel) (by decide +kernel)
set_option maxRecDepth 20000 in
theorem ggX10_fewestPremises_X10_isBad_1 : GoodIn wsX10_fewestPremises wsX100 := goodIn_r _ [144, 145, 146, 147, 148, 149, 150, 151, 152, 153, 154, 155, 156, 157, 158, 159, 160, 161, 162, 163, 164, 165, 166, 167, 168] (by decide +kernel) (by decide +kernel)
theorem ggX10_fewestPremises_X10_isBad : GoodIn wsX10_fewestPremises wsX10_isBad := goodIn_app ggX10_fewestPremises_X10_isBad_h (goodIn_app ggX10_fewestPremises_X10_isBad_0 ggX10_fewestPremises_X10_isBad_1)
set_option maxRecDepth 20000 in
theorem gX10_fewestPremises_X10_isBad : GoodIn wsX10_fewestPremises (wsV RX10 264 RX10 yX10_isBad wsX10_isBad) := goodIn_app (goodIn_of _ (by decide +kernel)) ggX10_fewestPremises_X10_isBad
set_option maxRecDepth 20000 in
theorem ggX10_fewestPremises_X10_noClaim : GoodIn wsX10_fewestPremises wsX10_noClaim := goodIn_r _ [16, 17, 18, 19, 4, 20, 6, 7, 8, 144, 145, 146, 147, 148, 149, 150, 151, 152, 153, 154, 155, 156, 157, 158, 159, 160, 161, 162, 163, 164, 165, 166, 167, 168] (by decide +kernel) (by decide +kernel)
set_option maxRecDepth 20000 in
theorem gX10_fewestPremises_X10_noClaim : GoodIn wsX10_fewestPremises (wsV RX10 163 RX10 yX10_noClaim wsX10_noClaim) := goodIn_app (goodIn_of _ (by decide +kernel)) ggX10_fewestPremises_X10_noClaim
set_option maxRecDepth 20000 in
theorem ggX10_fewestPremises_X10_isFollowing_h : GoodIn wsX10_fewestPremises [Cond.code yX10_isFollowing cX10_isFollowing 3 (some .boolean)] := goodIn_r _ [24] (by decide +kernel) (by decide +kernel)
set_option maxRecDepth 20000 in
theorem ggX10_fewestPremises_X10_isFollowing_0 : GoodIn wsX10_fewestPremises wsX10_isFollowing_r1 := goodIn_r _ [25, 26, 27, 4, 28, 29, 30, 31, 32, 33, 34, 35, 36, 37, 38, 39, 40, 41, 42, 43, 44, 45, 46, 47] (by decide +kernel) (by decide +kernel)
set_option maxRecDepth 20000 in
theorem ggX10_fewestPremises_X10_isFollowing_1 : GoodIn wsX10_fewestPremises wsX10_isFollowing_r2 := goodIn_r _ [48, 49, 50, 51, 52, 53, 54, 55, 56, 57, 58, 59, 60, 61, 62, 63, 64, 65, 66, 67, 68, 69, 70, 71] (by decide +kernel) (by decide +kernel)
set_option maxRecDepth 20000 in
theorem ggX10_fewestPremises_X10_isFollowing_2 : GoodIn wsX10_fewestPremises wsX10_isFollowing_r3 := goodIn_r _ [72, 73, 17, 74, 75, 76, 77, 78, 79, 80, 81, 82, 83, 84, 85, 86, 87, 88, 89, 90, 91, 92, 93, 94] (by decide +kernel) (by decide +kernel)
set_option maxRecDepth 20000 in
theorem ggX10_fewestPremises_X10_isFollowing_3 : GoodIn wsX10_fewestPremises wsX10_isFollowing_r4 := goodIn_r _ [95, 96, 97, 98, 99, 100, 101, 102, 103, 104, 105, 106, 107, 108, 109, 110, 111, 112, 113, 114, 115, 116, 117, 118] (by decide +kernel) (by decide +kernel)
set_option maxRecDepth 20000 in
theorem ggX10_fewestPremises_X10_isFollowing_4 : GoodIn wsX10_fewestPremises wsX10_isFollowing_r5 := goodIn_r _ [119, 120, 121, 122, 123, 124, 125, 126, 127, 128, 129, 130, 131, 132, 133, 134, 135, 136, 137, 138, 139, 140] (by decide +kernel) (by decide +kernel)
set_option maxRecDepth 20000 in
theorem ggX10_fewestPremises_X10_isFollowing_5 : GoodIn wsX10_fewestPremises wsX100 := goodIn_r _ [144, 145, 146, 147, 148, 149, 150, 151, 152, 153, 154, 155, 156, 157, 158, 159, 160, 161, 162, 163, 164, 165, 166, 167, 168] (by decide +kernel) (by decide +kernel)
theorem ggX10_fewestPremises_X10_isFollowing : GoodIn wsX10_fewestPremises wsX10_isFollowing := goodIn_app ggX10_fewestPremises_X10_isFollowing_h (goodIn_app (goodIn_app ggX10_fewestPremises_X10_isFollowing_0 (goodIn_app ggX10_fewestPremises_X10_isFollowing_1 (goodIn_app ggX10_fewestPremises_X10_isFollowing_2 (goodIn_app ggX10_fewestPremises_X10_isFollowing_3 ggX10_fewestPremises_X10_isFollowing_4)))) ggX10_fewestPremises_X10_isFollowing_5)
set_option maxRecDepth 20000 in
theorem gX10_fewestPremises_X10_isFollowing : GoodIn wsX10_fewestPremises (wsV RX10 267 RX10 yX10_isFollowing wsX10_isFollowing) := goodIn_app (goodIn_of _ (by decide +kernel)) ggX10_fewestPremises_X10_isFollowing
set_option maxRecDepth 20000 in
theorem ggX10_fewestPremises_X10_bits : GoodIn wsX10_fewestPremises wsX10_bits := goodIn_r _ [143] (by decide +kernel) (by decide +kernel)
set_option maxRecDepth 20000 in
theorem gX10_fewestPremises_X10_bits : GoodIn wsX10_fewestPremises (va_wsS RX10 82 yX10_bits wsX10_bits) := goodIn_app (goodIn_of _ (by decide +kernel)) ggX10_fewestPremises_X10_bits
theorem dX10_fewestPremises_0 : decode cX10_fewestPremises 0 = .ok (.aload_n 0, 1) := by decide +kernel
theorem dX10_fewestPremises_1 : decode cX10_fewestPremises 1 = .ok (.iload_n 1, 1) := by decide +kernel
theorem dX10_fewestPremises_2 : decode cX10_fewestPremises 2 = .ok (.invokevirtual 264, 3) := by decide +kernel
theorem dX10_fewestPremises_5 : decode cX10_fewestPremises 5 = .ok (.ifCond .eq 6, 3) := by decide +kernel
theorem dX10_fewestPremises_8 : decode cX10_fewestPremises 8 = .ok (.bipush (-2), 2) := by decide +kernel
theorem dX10_fewestPremises_10 : decode cX10_fewestPremises 10 = .ok (.ireturn, 1) := by decide +kernel
theorem dX10_fewestPremises_11 : decode cX10_fewestPremises 11 = .ok (.aload_n 0, 1) := by decide +kernel
theorem dX10_fewestPremises_12 : decode cX10_fewestPremises 12 = .ok (.iload_n 2, 1) := by decide +kernel
theorem dX10_fewestPremises_13 : decode cX10_fewestPremises 13 = .ok (.invokevirtual 163, 3) := by decide +kernel
theorem dX10_fewestPremises_16 : decode cX10_fewestPremises 16 = .ok (.ifCond .eq 5, 3) := by decide +kernel
theorem dX10_fewestPremises_19 : decode cX10_fewestPremises 19 = .ok (.iconst (-1), 1) := by decide +kernel
theorem dX10_fewestPremises_20 : decode cX10_fewestPremises 20 = .ok (.ireturn, 1) := by decide +kernel
theorem dX10_fewestPremises_21 : decode cX10_fewestPremises 21 = .ok (.aload_n 0, 1) := by decide +kernel
theorem dX10_fewestPremises_22 : decode cX10_fewestPremises 22 = .ok (.iload_n 1, 1) := by decide +kernel
theorem dX10_fewestPremises_23 : decode cX10_fewestPremises 23 = .ok (.iload_n 2, 1) := by decide +kernel
theorem dX10_fewestPremises_24 : decode cX10_fewestPremises 24 = .ok (.invokevirtual 267, 3) := by decide +kernel
theorem dX10_fewestPremises_27 : decode cX10_fewestPremises 27 = .ok (.ifCond .ne 6, 3) := by decide +kernel
theorem dX10_fewestPremises_30 : decode cX10_fewestPremises 30 = .ok (.bipush (-4), 2) := by decide +kernel
theorem dX10_fewestPremises_32 : decode cX10_fewestPremises 32 = .ok (.ireturn, 1) := by decide +kernel
theorem dX10_fewestPremises_33 : decode cX10_fewestPremises 33 = .ok (.iload_n 1, 1) := by decide +kernel
theorem dX10_fewestPremises_34 : decode cX10_fewestPremises 34 = .ok (.istore_n 3, 1) := by decide +kernel
theorem dX10_fewestPremises_35 : decode cX10_fewestPremises 35 = .ok (.iconst 0, 1) := by decide +kernel
theorem dX10_fewestPremises_36 : decode cX10_fewestPremises 36 = .ok (.istore 4, 2) := by decide +kernel
theorem dX10_fewestPremises_38 : decode cX10_fewestPremises 38 = .ok (.iload 4, 2) := by decide +kernel
theorem dX10_fewestPremises_40 : decode cX10_fewestPremises 40 = .ok (.iload_n 1, 1) := by decide +kernel
theorem dX10_fewestPremises_41 : decode cX10_fewestPremises 41 = .ok (.if_icmp .ge 43, 3) := by decide +kernel
theorem dX10_fewestPremises_44 : decode cX10_fewestPremises 44 = .ok (.iload 4, 2) := by decide +kernel
theorem dX10_fewestPremises_46 : decode cX10_fewestPremises 46 = .ok (.iload_n 1, 1) := by decide +kernel
theorem dX10_fewestPremises_47 : decode cX10_fewestPremises 47 = .ok (.iconst (-1), 1) := by decide +kernel
theorem dX10_fewestPremises_48 : decode cX10_fewestPremises 48 = .ok (.ixor, 1) := by decide +kernel
theorem dX10_fewestPremises_49 : decode cX10_fewestPremises 49 = .ok (.iand, 1) := by decide +kernel
theorem dX10_fewestPremises_50 : decode cX10_fewestPremises 50 = .ok (.ifCond .ne 28, 3) := by decide +kernel
theorem dX10_fewestPremises_53 : decode cX10_fewestPremises 53 = .ok (.iload 4, 2) := by decide +kernel
theorem dX10_fewestPremises_55 : decode cX10_fewestPremises 55 = .ok (.invokestatic 82, 3) := by decide +kernel
theorem dX10_fewestPremises_58 : decode cX10_fewestPremises 58 = .ok (.iload_n 3, 1) := by decide +kernel
theorem dX10_fewestPremises_59 : decode cX10_fewestPremises 59 = .ok (.invokestatic 82, 3) := by decide +kernel
theorem dX10_fewestPremises_62 : decode cX10_fewestPremises 62 = .ok (.if_icmp .ge 16, 3) := by decide +kernel
theorem dX10_fewestPremises_65 : decode cX10_fewestPremises 65 = .ok (.aload_n 0, 1) := by decide +kernel
theorem dX10_fewestPremises_66 : decode cX10_fewestPremises 66 = .ok (.iload 4, 2) := by decide +kernel
theorem dX10_fewestPremises_68 : decode cX10_fewestPremises 68 = .ok (.iload_n 2, 1) := by decide +kernel
theorem dX10_fewestPremises_69 : decode cX10_fewestPremises 69 = .ok (.invokevirtual 267, 3) := by decide +kernel
theorem dX10_fewestPremises_72 : decode cX10_fewestPremises 72 = .ok (.ifCond .eq 6, 3) := by decide +kernel
theorem dX10_fewestPremises_75 : decode cX10_fewestPremises 75 = .ok (.iload 4, 2) := by decide +kernel
theorem dX10_fewestPremises_77 : decode cX10_fewestPremises 77 = .ok (.istore_n 3, 1) := by decide +kernel
theorem dX10_fewestPremises_78 : decode cX10_fewestPremises 78 = .ok (.iinc 4 1, 3) := by decide +kernel
theorem dX10_fewestPremises_81 : decode cX10_fewestPremises 81 = .ok (.goto (-43), 3) := by decide +kernel
theorem dX10_fewestPremises_84 : decode cX10_fewestPremises 84 = .ok (.iload_n 3, 1) := by decide +kernel
theorem dX10_fewestPremises_85 : decode cX10_fewestPremises 85 = .ok (.ireturn, 1) := by decide +kernel
set_option maxRecDepth 20000 in
theorem ggX10_relation_X10_noClaim : GoodIn wsX10_relation wsX10_noClaim := goodIn_r _ [5, 6, 7, 8, 4, 9, 10, 11, 12, 133, 134, 135, 136, 137, 138, 139, 140, 141, 142, 143, 144, 145, 146, 147, 148, 149, 150, 151, 152, 153, 154, 155, 156, 157] (by decide +kernel) (by decide +kernel)
set_option maxRecDepth 20000 in
theorem gX10_relation_X10_noClaim : GoodIn wsX10_relation (wsV RX10 163 RX10 yX10_noClaim wsX10_noClaim) := goodIn_app (goodIn_of _ (by decide +kernel)) ggX10_relation_X10_noClaim
set_option maxRecDepth 20000 in
theorem ggX10_relation_X10_isFollowing_h : GoodIn wsX10_relation [Cond.code yX10_isFollowing cX10_isFollowing 3 (some .boolean)] := goodIn_r _ [16] (by decide +kernel) (by decide +kernel)
set_option maxRecDepth 20000 in
theorem ggX10_relation_X10_isFollowing_0 : GoodIn wsX10_relation wsX10_isFollowing_r1 := goodIn_r _ [17, 18, 19, 4, 20, 21, 22, 23, 24, 25, 26, 27, 28, 29, 30, 31, 32, 33, 34, 35, 36, 37, 38, 39] (by decide +kernel) (by decide +kernel)
set_option maxRecDepth 20000 in
theorem ggX10_relation_X10_isFollowing_1 : GoodIn wsX10_relation wsX10_isFollowing_r2 := goodIn_r _ [40, 41, 42, 43, 44, 45, 46, 47, 48, 49, 50, 51, 52, 53, 54, 55, 56, 57, 58, 59, 60, 61, 62, 63] (by decide +kernel) (by decide +kernel)
set_option maxRecDepth 20000 in
theorem ggX10_relation_X10_isFollowing_2 : GoodIn wsX10_relation wsX10_isFollowing_r3 := goodIn_r _ [64, 65, 6, 66, 67, 68, 69, 70, 71, 72, 73, 74, 75, 76, 77, 78, 79, 80, 81, 82, 83, 84, 85, 86] (by decide +kernel) (by decide +kernel)
set_option maxRecDepth 20000 in
theorem ggX10_relation_X10_isFollowing_3 : GoodIn wsX10_relation wsX10_isFollowing_r4 := goodIn_r _ [87, 88, 89, 90, 91, 92, 93, 94, 95, 96, 97, 98, 99, 100, 101, 102, 103, 104, 105, 106, 107, 108, 109, 110] (by decide +kernel) (by decide +kernel)
set_option maxRecDepth 20000 in
theorem ggX10_relation_X10_isFollowing_4 : GoodIn wsX10_relation wsX10_isFollowing_r5 := goodIn_r _ [111, 112, 113, 114, 115, 116, 117, 118, 119, 120, 121, 122, 123, 124, 125, 126, 127, 128, 129, 130, 131, 132] (by decide +kernel) (by decide +kernel)
set_option maxRecDepth 20000 in
theorem ggX10_relation_X10_isFollowing_5 : GoodIn wsX10_relation wsX100 := goodIn_r _ [133, 134, 135, 136, 137, 138, 139, 140, 141, 142, 143, 144, 145, 146, 147, 148, 149, 150, 151, 152, 153, 154, 155, 156, 157] (by decide +kernel) (by decide +kernel)
theorem ggX10_relation_X10_isFollowing : GoodIn wsX10_relation wsX10_isFollowing := goodIn_app ggX10_relation_X10_isFollowing_h (goodIn_app (goodIn_app ggX10_relation_X10_isFollowing_0 (goodIn_app ggX10_relation_X10_isFollowing_1 (goodIn_app ggX10_relation_X10_isFollowing_2 (goodIn_app ggX10_relation_X10_isFollowing_3 ggX10_relation_X10_isFollowing_4)))) ggX10_relation_X10_isFollowing_5)
set_option maxRecDepth 20000 in
theorem gX10_relation_X10_isFollowing : GoodIn wsX10_relation (wsV RX10 267 RX10 yX10_isFollowing wsX10_isFollowing) := goodIn_app (goodIn_of _ (by decide +kernel)) ggX10_relation_X10_isFollowing
theorem dX10_relation_0 : decode cX10_relation 0 = .ok (.aload_n 0, 1) := by decide +kernel
theorem dX10_relation_1 : decode cX10_relation 1 = .ok (.iload_n 1, 1) := by decide +kernel
theorem dX10_relation_2 : decode cX10_relation 2 = .ok (.invokevirtual 163, 3) := by decide +kernel
theorem dX10_relation_5 : decode cX10_relation 5 = .ok (.ifCond .ne 11, 3) := by decide +kernel
theorem dX10_relation_8 : decode cX10_relation 8 = .ok (.aload_n 0, 1) := by decide +kernel
theorem dX10_relation_9 : decode cX10_relation 9 = .ok (.iload_n 2, 1) := by decide +kernel
theorem dX10_relation_10 : decode cX10_relation 10 = .ok (.invokevirtual 163, 3) := by decide +kernel
theorem dX10_relation_13 : decode cX10_relation 13 = .ok (.ifCond .eq 5, 3) := by decide +kernel
theorem dX10_relation_16 : decode cX10_relation 16 = .ok (.iconst (-1), 1) := by decide +kernel
theorem dX10_relation_17 : decode cX10_relation 17 = .ok (.ireturn, 1) := by decide +kernel
theorem dX10_relation_18 : decode cX10_relation 18 = .ok (.aload_n 0, 1) := by decide +kernel
theorem dX10_relation_19 : decode cX10_relation 19 = .ok (.iconst 1, 1) := by decide +kernel
theorem dX10_relation_20 : decode cX10_relation 20 = .ok (.iload_n 1, 1) := by decide +kernel
theorem dX10_relation_21 : decode cX10_relation 21 = .ok (.ishl, 1) := by decide +kernel
theorem dX10_relation_22 : decode cX10_relation 22 = .ok (.iload_n 2, 1) := by decide +kernel
theorem dX10_relation_23 : decode cX10_relation 23 = .ok (.invokevirtual 267, 3) := by decide +kernel
theorem dX10_relation_26 : decode cX10_relation 26 = .ok (.ifCond .eq 7, 3) := by decide +kernel
theorem dX10_relation_29 : decode cX10_relation 29 = .ok (.iconst 1, 1) := by decide +kernel
theorem dX10_relation_30 : decode cX10_relation 30 = .ok (.goto 4, 3) := by decide +kernel
theorem dX10_relation_33 : decode cX10_relation 33 = .ok (.iconst 0, 1) := by decide +kernel
theorem dX10_relation_34 : decode cX10_relation 34 = .ok (.aload_n 0, 1) := by decide +kernel
theorem dX10_relation_35 : decode cX10_relation 35 = .ok (.iconst 1, 1) := by decide +kernel
theorem dX10_relation_36 : decode cX10_relation 36 = .ok (.iload_n 2, 1) := by decide +kernel
theorem dX10_relation_37 : decode cX10_relation 37 = .ok (.ishl, 1) := by decide +kernel
theorem dX10_relation_38 : decode cX10_relation 38 = .ok (.iload_n 1, 1) := by decide +kernel
theorem dX10_relation_39 : decode cX10_relation 39 = .ok (.invokevirtual 267, 3) := by decide +kernel
theorem dX10_relation_42 : decode cX10_relation 42 = .ok (.ifCond .eq 7, 3) := by decide +kernel
theorem dX10_relation_45 : decode cX10_relation 45 = .ok (.iconst 2, 1) := by decide +kernel
theorem dX10_relation_46 : decode cX10_relation 46 = .ok (.goto 4, 3) := by decide +kernel
theorem dX10_relation_49 : decode cX10_relation 49 = .ok (.iconst 0, 1) := by decide +kernel
theorem dX10_relation_50 : decode cX10_relation 50 = .ok (.iadd, 1) := by decide +kernel
theorem dX10_relation_51 : decode cX10_relation 51 = .ok (.ireturn, 1) := by decide +kernel
theorem dX10_undo_0 : decode cX10_undo 0 = .ok (.aload_n 0, 1) := by decide +kernel
theorem dX10_undo_1 : decode cX10_undo 1 = .ok (.getfield 74, 3) := by decide +kernel
theorem dX10_undo_4 : decode cX10_undo 4 = .ok (.ifCond .ne 6, 3) := by decide +kernel
theorem dX10_undo_7 : decode cX10_undo 7 = .ok (.bipush (-5), 2) := by decide +kernel
theorem dX10_undo_9 : decode cX10_undo 9 = .ok (.ireturn, 1) := by decide +kernel
theorem dX10_undo_10 : decode cX10_undo 10 = .ok (.aload_n 0, 1) := by decide +kernel
theorem dX10_undo_11 : decode cX10_undo 11 = .ok (.dup, 1) := by decide +kernel
theorem dX10_undo_12 : decode cX10_undo 12 = .ok (.getfield 74, 3) := by decide +kernel
theorem dX10_undo_15 : decode cX10_undo 15 = .ok (.iconst 1, 1) := by decide +kernel
theorem dX10_undo_16 : decode cX10_undo 16 = .ok (.isub, 1) := by decide +kernel
theorem dX10_undo_17 : decode cX10_undo 17 = .ok (.putfield 74, 3) := by decide +kernel
theorem dX10_undo_20 : decode cX10_undo 20 = .ok (.iconst 0, 1) := by decide +kernel
theorem dX10_undo_21 : decode cX10_undo 21 = .ok (.istore_n 1, 1) := by decide +kernel
theorem dX10_undo_22 : decode cX10_undo 22 = .ok (.iload_n 1, 1) := by decide +kernel
theorem dX10_undo_23 : decode cX10_undo 23 = .ok (.sipush 172, 3) := by decide +kernel
theorem dX10_undo_26 : decode cX10_undo 26 = .ok (.if_icmp .ge 30, 3) := by decide +kernel
theorem dX10_undo_29 : decode cX10_undo 29 = .ok (.aload_n 0, 1) := by decide +kernel
theorem dX10_undo_30 : decode cX10_undo 30 = .ok (.getfield 7, 3) := by decide +kernel
theorem dX10_undo_33 : decode cX10_undo 33 = .ok (.iload_n 1, 1) := by decide +kernel
theorem dX10_undo_34 : decode cX10_undo 34 = .ok (.aload_n 0, 1) := by decide +kernel
theorem dX10_undo_35 : decode cX10_undo 35 = .ok (.getfield 13, 3) := by decide +kernel
theorem dX10_undo_38 : decode cX10_undo 38 = .ok (.sipush 172, 3) := by decide +kernel
theorem dX10_undo_41 : decode cX10_undo 41 = .ok (.aload_n 0, 1) := by decide +kernel
theorem dX10_undo_42 : decode cX10_undo 42 = .ok (.getfield 74, 3) := by decide +kernel
theorem dX10_undo_45 : decode cX10_undo 45 = .ok (.imul, 1) := by decide +kernel
theorem dX10_undo_46 : decode cX10_undo 46 = .ok (.iload_n 1, 1) := by decide +kernel
theorem dX10_undo_47 : decode cX10_undo 47 = .ok (.iadd, 1) := by decide +kernel
theorem dX10_undo_48 : decode cX10_undo 48 = .ok (.iaload, 1) := by decide +kernel
theorem dX10_undo_49 : decode cX10_undo 49 = .ok (.iastore, 1) := by decide +kernel
theorem dX10_undo_50 : decode cX10_undo 50 = .ok (.iinc 1 1, 3) := by decide +kernel
theorem dX10_undo_53 : decode cX10_undo 53 = .ok (.goto (-31), 3) := by decide +kernel
theorem dX10_undo_56 : decode cX10_undo 56 = .ok (.aload_n 0, 1) := by decide +kernel
theorem dX10_undo_57 : decode cX10_undo 57 = .ok (.getfield 74, 3) := by decide +kernel
theorem dX10_undo_60 : decode cX10_undo 60 = .ok (.ireturn, 1) := by decide +kernel
theorem dX10_keep_0 : decode cX10_keep 0 = .ok (.iconst 0, 1) := by decide +kernel
theorem dX10_keep_1 : decode cX10_keep 1 = .ok (.istore_n 1, 1) := by decide +kernel
theorem dX10_keep_2 : decode cX10_keep 2 = .ok (.iload_n 1, 1) := by decide +kernel
theorem dX10_keep_3 : decode cX10_keep 3 = .ok (.sipush 172, 3) := by decide +kernel
theorem dX10_keep_6 : decode cX10_keep 6 = .ok (.if_icmp .ge 21, 3) := by decide +kernel
theorem dX10_keep_9 : decode cX10_keep 9 = .ok (.aload_n 0, 1) := by decide +kernel
theorem dX10_keep_10 : decode cX10_keep 10 = .ok (.getfield 16, 3) := by decide +kernel
theorem dX10_keep_13 : decode cX10_keep 13 = .ok (.iload_n 1, 1) := by decide +kernel
theorem dX10_keep_14 : decode cX10_keep 14 = .ok (.aload_n 0, 1) := by decide +kernel
theorem dX10_keep_15 : decode cX10_keep 15 = .ok (.getfield 7, 3) := by decide +kernel
theorem dX10_keep_18 : decode cX10_keep 18 = .ok (.iload_n 1, 1) := by decide +kernel
theorem dX10_keep_19 : decode cX10_keep 19 = .ok (.iaload, 1) := by decide +kernel
theorem dX10_keep_20 : decode cX10_keep 20 = .ok (.iastore, 1) := by decide +kernel
theorem dX10_keep_21 : decode cX10_keep 21 = .ok (.iinc 1 1, 3) := by decide +kernel
theorem dX10_keep_24 : decode cX10_keep 24 = .ok (.goto (-22), 3) := by decide +kernel
theorem dX10_keep_27 : decode cX10_keep 27 = .ok (.aload_n 0, 1) := by decide +kernel
theorem dX10_keep_28 : decode cX10_keep 28 = .ok (.iconst 1, 1) := by decide +kernel
theorem dX10_keep_29 : decode cX10_keep 29 = .ok (.putfield 273, 3) := by decide +kernel
theorem dX10_keep_32 : decode cX10_keep 32 = .ok (.aload_n 0, 1) := by decide +kernel
theorem dX10_keep_33 : decode cX10_keep 33 = .ok (.getfield 7, 3) := by decide +kernel
theorem dX10_keep_36 : decode cX10_keep 36 = .ok (.bipush 16, 2) := by decide +kernel
theorem dX10_keep_38 : decode cX10_keep 38 = .ok (.iaload, 1) := by decide +kernel
theorem dX10_keep_39 : decode cX10_keep 39 = .ok (.ireturn, 1) := by decide +kernel
set_option maxRecDepth 20000 in
theorem ggX10_restore_X10_record : GoodIn wsX10_restore wsX10_record := goodIn_r _ [8, 9, 10, 2, 11, 12, 13, 14, 15, 16, 17, 18, 19, 20, 21, 22, 23, 24, 25, 26, 27, 28, 29, 30, 31, 32, 33, 34, 35] (by decide +kernel) (by decide +kernel)
set_option maxRecDepth 20000 in
theorem gX10_restore_X10_record : GoodIn wsX10_restore (wsV RX10 89 RX10 yX10_record wsX10_record) := goodIn_app (goodIn_of _ (by decide +kernel)) ggX10_restore_X10_record
theorem dX10_restore_0 : decode cX10_restore 0 = .ok (.aload_n 0, 1) := by decide +kernel
theorem dX10_restore_1 : decode cX10_restore 1 = .ok (.getfield 273, 3) := by decide +kernel
theorem dX10_restore_4 : decode cX10_restore 4 = .ok (.ifCond .ne 6, 3) := by decide +kernel
theorem dX10_restore_7 : decode cX10_restore 7 = .ok (.bipush (-5), 2) := by decide +kernel
theorem dX10_restore_9 : decode cX10_restore 9 = .ok (.ireturn, 1) := by decide +kernel
theorem dX10_restore_10 : decode cX10_restore 10 = .ok (.aload_n 0, 1) := by decide +kernel
theorem dX10_restore_11 : decode cX10_restore 11 = .ok (.invokevirtual 89, 3) := by decide +kernel
theorem dX10_restore_14 : decode cX10_restore 14 = .ok (.iconst 0, 1) := by decide +kernel
theorem dX10_restore_15 : decode cX10_restore 15 = .ok (.istore_n 1, 1) := by decide +kernel
theorem dX10_restore_16 : decode cX10_restore 16 = .ok (.iload_n 1, 1) := by decide +kernel
theorem dX10_restore_17 : decode cX10_restore 17 = .ok (.sipush 172, 3) := by decide +kernel
theorem dX10_restore_20 : decode cX10_restore 20 = .ok (.if_icmp .ge 21, 3) := by decide +kernel
theorem dX10_restore_23 : decode cX10_restore 23 = .ok (.aload_n 0, 1) := by decide +kernel
theorem dX10_restore_24 : decode cX10_restore 24 = .ok (.getfield 7, 3) := by decide +kernel
theorem dX10_restore_27 : decode cX10_restore 27 = .ok (.iload_n 1, 1) := by decide +kernel
theorem dX10_restore_28 : decode cX10_restore 28 = .ok (.aload_n 0, 1) := by decide +kernel
theorem dX10_restore_29 : decode cX10_restore 29 = .ok (.getfield 16, 3) := by decide +kernel
theorem dX10_restore_32 : decode cX10_restore 32 = .ok (.iload_n 1, 1) := by decide +kernel
theorem dX10_restore_33 : decode cX10_restore 33 = .ok (.iaload, 1) := by decide +kernel
theorem dX10_restore_34 : decode cX10_restore 34 = .ok (.iastore, 1) := by decide +kernel
theorem dX10_restore_35 : decode cX10_restore 35 = .ok (.iinc 1 1, 3) := by decide +kernel
theorem dX10_restore_38 : decode cX10_restore 38 = .ok (.goto (-22), 3) := by decide +kernel
theorem dX10_restore_41 : decode cX10_restore 41 = .ok (.aload_n 0, 1) := by decide +kernel
theorem dX10_restore_42 : decode cX10_restore 42 = .ok (.getfield 7, 3) := by decide +kernel
theorem dX10_restore_45 : decode cX10_restore 45 = .ok (.bipush 16, 2) := by decide +kernel
theorem dX10_restore_47 : decode cX10_restore 47 = .ok (.iaload, 1) := by decide +kernel
theorem dX10_restore_48 : decode cX10_restore 48 = .ok (.ireturn, 1) := by decide +kernel
set_option maxRecDepth 20000 in
theorem ggX10_stage_X10_noStage : GoodIn wsX10_stage wsX10_noStage := goodIn_r _ [7, 1, 8, 9, 6, 10, 30, 31, 32, 33, 34, 35, 36, 37, 38, 39, 40, 41, 42, 43, 44, 45, 46, 47, 48, 49, 50, 51, 52, 53, 54] (by decide +kernel) (by decide +kernel)
set_option maxRecDepth 20000 in
theorem gX10_stage_X10_noStage : GoodIn wsX10_stage (wsV RX10 86 RX10 yX10_noStage wsX10_noStage) := goodIn_app (goodIn_of _ (by decide +kernel)) ggX10_stage_X10_noStage
set_option maxRecDepth 20000 in
theorem ggX10_stage_X10_leadingTo : GoodIn wsX10_stage wsX10_leadingTo := goodIn_r _ [14, 1, 15, 16, 17, 6, 18, 30, 31, 32, 33, 34, 35, 36, 37, 38, 39, 40, 41, 42, 43, 44, 45, 46, 47, 48, 49, 50, 51, 52, 53, 54] (by decide +kernel) (by decide +kernel)
set_option maxRecDepth 20000 in
theorem gX10_stage_X10_leadingTo : GoodIn wsX10_stage (wsV RX10 96 RX10 yX10_leadingTo wsX10_leadingTo) := goodIn_app (goodIn_of _ (by decide +kernel)) ggX10_stage_X10_leadingTo
set_option maxRecDepth 20000 in
theorem ggX10_stage_X10_findsLike : GoodIn wsX10_stage wsX10_findsLike := goodIn_r _ [22, 1, 2, 23, 24, 25, 6, 26, 15, 16, 17, 18, 30, 31, 32, 33, 34, 35, 36, 37, 38, 39, 40, 41, 42, 43, 44, 45, 46, 47, 48, 49, 50, 51, 52, 53, 54] (by decide +kernel) (by decide +kernel)
set_option maxRecDepth 20000 in
theorem gX10_stage_X10_findsLike : GoodIn wsX10_stage (wsV RX10 113 RX10 yX10_findsLike wsX10_findsLike) := goodIn_app (goodIn_of _ (by decide +kernel)) ggX10_stage_X10_findsLike
set_option maxRecDepth 20000 in
theorem ggX10_stage_X10_lowest : GoodIn wsX10_stage wsX10_lowest := goodIn_r _ [29] (by decide +kernel) (by decide +kernel)
set_option maxRecDepth 20000 in
theorem gX10_stage_X10_lowest : GoodIn wsX10_stage (va_wsS RX10 116 yX10_lowest wsX10_lowest) := goodIn_app (goodIn_of _ (by decide +kernel)) ggX10_stage_X10_lowest
theorem dX10_stage_0 : decode cX10_stage 0 = .ok (.aload_n 0, 1) := by decide +kernel
theorem dX10_stage_1 : decode cX10_stage 1 = .ok (.iload_n 1, 1) := by decide +kernel
theorem dX10_stage_2 : decode cX10_stage 2 = .ok (.invokevirtual 86, 3) := by decide +kernel
theorem dX10_stage_5 : decode cX10_stage 5 = .ok (.ifCond .eq 5, 3) := by decide +kernel
theorem dX10_stage_8 : decode cX10_stage 8 = .ok (.iconst (-1), 1) := by decide +kernel
theorem dX10_stage_9 : decode cX10_stage 9 = .ok (.ireturn, 1) := by decide +kernel
theorem dX10_stage_10 : decode cX10_stage 10 = .ok (.iload_n 2, 1) := by decide +kernel
theorem dX10_stage_11 : decode cX10_stage 11 = .ok (.tableswitch 68 0 3 #[29, 38, 44, 54], 29) := by decide +kernel
theorem dX10_stage_40 : decode cX10_stage 40 = .ok (.aload_n 0, 1) := by decide +kernel
theorem dX10_stage_41 : decode cX10_stage 41 = .ok (.getfield 7, 3) := by decide +kernel
theorem dX10_stage_44 : decode cX10_stage 44 = .ok (.iconst 0, 1) := by decide +kernel
theorem dX10_stage_45 : decode cX10_stage 45 = .ok (.iload_n 1, 1) := by decide +kernel
theorem dX10_stage_46 : decode cX10_stage 46 = .ok (.iadd, 1) := by decide +kernel
theorem dX10_stage_47 : decode cX10_stage 47 = .ok (.iaload, 1) := by decide +kernel
theorem dX10_stage_48 : decode cX10_stage 48 = .ok (.ireturn, 1) := by decide +kernel
theorem dX10_stage_49 : decode cX10_stage 49 = .ok (.aload_n 0, 1) := by decide +kernel
theorem dX10_stage_50 : decode cX10_stage 50 = .ok (.iload_n 1, 1) := by decide +kernel
theorem dX10_stage_51 : decode cX10_stage 51 = .ok (.invokevirtual 96, 3) := by decide +kernel
theorem dX10_stage_54 : decode cX10_stage 54 = .ok (.ireturn, 1) := by decide +kernel
theorem dX10_stage_55 : decode cX10_stage 55 = .ok (.aload_n 0, 1) := by decide +kernel
theorem dX10_stage_56 : decode cX10_stage 56 = .ok (.getfield 7, 3) := by decide +kernel
theorem dX10_stage_59 : decode cX10_stage 59 = .ok (.bipush 8, 2) := by decide +kernel
theorem dX10_stage_61 : decode cX10_stage 61 = .ok (.iload_n 1, 1) := by decide +kernel
theorem dX10_stage_62 : decode cX10_stage 62 = .ok (.iadd, 1) := by decide +kernel
theorem dX10_stage_63 : decode cX10_stage 63 = .ok (.iaload, 1) := by decide +kernel
theorem dX10_stage_64 : decode cX10_stage 64 = .ok (.ireturn, 1) := by decide +kernel
theorem dX10_stage_65 : decode cX10_stage 65 = .ok (.aload_n 0, 1) := by decide +kernel
theorem dX10_stage_66 : decode cX10_stage 66 = .ok (.invokevirtual 113, 3) := by decide +kernel
theorem dX10_stage_69 : decode cX10_stage 69 = .ok (.aload_n 0, 1) := by decide +kernel
theorem dX10_stage_70 : decode cX10_stage 70 = .ok (.getfield 19, 3) := by decide +kernel
theorem dX10_stage_73 : decode cX10_stage 73 = .ok (.iload_n 1, 1) := by decide +kernel
theorem dX10_stage_74 : decode cX10_stage 74 = .ok (.iaload, 1) := by decide +kernel
theorem dX10_stage_75 : decode cX10_stage 75 = .ok (.invokestatic 116, 3) := by decide +kernel
theorem dX10_stage_78 : decode cX10_stage 78 = .ok (.ireturn, 1) := by decide +kernel
theorem dX10_stage_79 : decode cX10_stage 79 = .ok (.bipush (-2), 2) := by decide +kernel
theorem dX10_stage_81 : decode cX10_stage 81 = .ok (.ireturn, 1) := by decide +kernel
set_option maxRecDepth 20000 in
theorem ggX10_alike_X10_noStage : GoodIn wsX10_alike wsX10_noStage := goodIn_r _ [6, 7, 8, 9, 5, 10, 23, 24, 25, 26, 27, 28, 29, 30, 31, 32, 33, 34, 35, 36, 37, 38, 39, 40, 41, 42, 43, 44, 45, 46, 47] (by decide +kernel) (by decide +kernel)
set_option maxRecDepth 20000 in
theorem gX10_alike_X10_noStage : GoodIn wsX10_alike (wsV RX10 86 RX10 yX10_noStage wsX10_noStage) := goodIn_app (goodIn_of _ (by decide +kernel)) ggX10_alike_X10_noStage
set_option maxRecDepth 20000 in
theorem ggX10_alike_X10_findsLike : GoodIn wsX10_alike wsX10_findsLike := goodIn_r _ [14, 7, 1, 15, 16, 17, 5, 18, 19, 20, 21, 22, 23, 24, 25, 26, 27, 28, 29, 30, 31, 32, 33, 34, 35, 36, 37, 38, 39, 40, 41, 42, 43, 44, 45, 46, 47] (by decide +kernel) (by decide +kernel)
set_option maxRecDepth 20000 in
theorem gX10_alike_X10_findsLike : GoodIn wsX10_alike (wsV RX10 113 RX10 yX10_findsLike wsX10_findsLike) := goodIn_app (goodIn_of _ (by decide +kernel)) ggX10_alike_X10_findsLike
theorem dX10_alike_0 : decode cX10_alike 0 = .ok (.aload_n 0, 1) := by decide +kernel
theorem dX10_alike_1 : decode cX10_alike 1 = .ok (.iload_n 1, 1) := by decide +kernel
theorem dX10_alike_2 : decode cX10_alike 2 = .ok (.invokevirtual 86, 3) := by decide +kernel
theorem dX10_alike_5 : decode cX10_alike 5 = .ok (.ifCond .ne 11, 3) := by decide +kernel
theorem dX10_alike_8 : decode cX10_alike 8 = .ok (.aload_n 0, 1) := by decide +kernel
theorem dX10_alike_9 : decode cX10_alike 9 = .ok (.iload_n 2, 1) := by decide +kernel
theorem dX10_alike_10 : decode cX10_alike 10 = .ok (.invokevirtual 86, 3) := by decide +kernel
theorem dX10_alike_13 : decode cX10_alike 13 = .ok (.ifCond .eq 5, 3) := by decide +kernel
theorem dX10_alike_16 : decode cX10_alike 16 = .ok (.iconst (-1), 1) := by decide +kernel
theorem dX10_alike_17 : decode cX10_alike 17 = .ok (.ireturn, 1) := by decide +kernel
theorem dX10_alike_18 : decode cX10_alike 18 = .ok (.aload_n 0, 1) := by decide +kernel
theorem dX10_alike_19 : decode cX10_alike 19 = .ok (.invokevirtual 113, 3) := by decide +kernel
theorem dX10_alike_22 : decode cX10_alike 22 = .ok (.aload_n 0, 1) := by decide +kernel
theorem dX10_alike_23 : decode cX10_alike 23 = .ok (.getfield 19, 3) := by decide +kernel
theorem dX10_alike_26 : decode cX10_alike 26 = .ok (.iload_n 1, 1) := by decide +kernel
theorem dX10_alike_27 : decode cX10_alike 27 = .ok (.iaload, 1) := by decide +kernel
theorem dX10_alike_28 : decode cX10_alike 28 = .ok (.iload_n 2, 1) := by decide +kernel
theorem dX10_alike_29 : decode cX10_alike 29 = .ok (.ishr, 1) := by decide +kernel
theorem dX10_alike_30 : decode cX10_alike 30 = .ok (.iconst 1, 1) := by decide +kernel
theorem dX10_alike_31 : decode cX10_alike 31 = .ok (.iand, 1) := by decide +kernel
theorem dX10_alike_32 : decode cX10_alike 32 = .ok (.ireturn, 1) := by decide +kernel
theorem dX10_finds_0 : decode cX10_finds 0 = .ok (.bipush 17, 2) := by decide +kernel
theorem dX10_finds_2 : decode cX10_finds 2 = .ok (.bipush 31, 2) := by decide +kernel
theorem dX10_finds_4 : decode cX10_finds 4 = .ok (.iload_n 1, 1) := by decide +kernel
theorem dX10_finds_5 : decode cX10_finds 5 = .ok (.imul, 1) := by decide +kernel
theorem dX10_finds_6 : decode cX10_finds 6 = .ok (.iadd, 1) := by decide +kernel
theorem dX10_finds_7 : decode cX10_finds 7 = .ok (.istore_n 2, 1) := by decide +kernel
theorem dX10_finds_8 : decode cX10_finds 8 = .ok (.iconst 1, 1) := by decide +kernel
theorem dX10_finds_9 : decode cX10_finds 9 = .ok (.istore_n 3, 1) := by decide +kernel
theorem dX10_finds_10 : decode cX10_finds 10 = .ok (.iload_n 3, 1) := by decide +kernel
theorem dX10_finds_11 : decode cX10_finds 11 = .ok (.aload_n 0, 1) := by decide +kernel
theorem dX10_finds_12 : decode cX10_finds 12 = .ok (.getfield 7, 3) := by decide +kernel
theorem dX10_finds_15 : decode cX10_finds 15 = .ok (.iload_n 2, 1) := by decide +kernel
theorem dX10_finds_16 : decode cX10_finds 16 = .ok (.iaload, 1) := by decide +kernel
theorem dX10_finds_17 : decode cX10_finds 17 = .ok (.if_icmp .gt 69, 3) := by decide +kernel
theorem dX10_finds_20 : decode cX10_finds 20 = .ok (.aload_n 0, 1) := by decide +kernel
theorem dX10_finds_21 : decode cX10_finds 21 = .ok (.getfield 7, 3) := by decide +kernel
theorem dX10_finds_24 : decode cX10_finds 24 = .ok (.iload_n 2, 1) := by decide +kernel
theorem dX10_finds_25 : decode cX10_finds 25 = .ok (.iload_n 3, 1) := by decide +kernel
theorem dX10_finds_26 : decode cX10_finds 26 = .ok (.iadd, 1) := by decide +kernel
theorem dX10_finds_27 : decode cX10_finds 27 = .ok (.iaload, 1) := by decide +kernel
theorem dX10_finds_28 : decode cX10_finds 28 = .ok (.istore 4, 2) := by decide +kernel
theorem dX10_finds_30 : decode cX10_finds 30 = .ok (.aload_n 0, 1) := by decide +kernel
theorem dX10_finds_31 : decode cX10_finds 31 = .ok (.getfield 63, 3) := by decide +kernel
theorem dX10_finds_34 : decode cX10_finds 34 = .ok (.iload_n 3, 1) := by decide +kernel
theorem dX10_finds_35 : decode cX10_finds 35 = .ok (.iload 4, 2) := by decide +kernel
theorem dX10_finds_37 : decode cX10_finds 37 = .ok (.bipush 6, 2) := by decide +kernel
theorem dX10_finds_39 : decode cX10_finds 39 = .ok (.if_icmp .ge 7, 3) := by decide +kernel
theorem dX10_finds_42 : decode cX10_finds 42 = .ok (.iload_n 3, 1) := by decide +kernel
theorem dX10_finds_43 : decode cX10_finds 43 = .ok (.goto 36, 3) := by decide +kernel
theorem dX10_finds_46 : decode cX10_finds 46 = .ok (.iload 4, 2) := by decide +kernel
theorem dX10_finds_48 : decode cX10_finds 48 = .ok (.bipush 6, 2) := by decide +kernel
theorem dX10_finds_50 : decode cX10_finds 50 = .ok (.if_icmp .ne 14, 3) := by decide +kernel
theorem dX10_finds_53 : decode cX10_finds 53 = .ok (.aload_n 0, 1) := by decide +kernel
theorem dX10_finds_54 : decode cX10_finds 54 = .ok (.getfield 63, 3) := by decide +kernel
theorem dX10_finds_57 : decode cX10_finds 57 = .ok (.iload_n 3, 1) := by decide +kernel
theorem dX10_finds_58 : decode cX10_finds 58 = .ok (.iconst 1, 1) := by decide +kernel
theorem dX10_finds_59 : decode cX10_finds 59 = .ok (.isub, 1) := by decide +kernel
theorem dX10_finds_60 : decode cX10_finds 60 = .ok (.iaload, 1) := by decide +kernel
theorem dX10_finds_61 : decode cX10_finds 61 = .ok (.goto 18, 3) := by decide +kernel
theorem dX10_finds_64 : decode cX10_finds 64 = .ok (.aload_n 0, 1) := by decide +kernel
theorem dX10_finds_65 : decode cX10_finds 65 = .ok (.getfield 63, 3) := by decide +kernel
theorem dX10_finds_68 : decode cX10_finds 68 = .ok (.aload_n 0, 1) := by decide +kernel
theorem dX10_finds_69 : decode cX10_finds 69 = .ok (.getfield 63, 3) := by decide +kernel
theorem dX10_finds_72 : decode cX10_finds 72 = .ok (.iload_n 3, 1) := by decide +kernel
theorem dX10_finds_73 : decode cX10_finds 73 = .ok (.iconst 1, 1) := by decide +kernel
theorem dX10_finds_74 : decode cX10_finds 74 = .ok (.isub, 1) := by decide +kernel
theorem dX10_finds_75 : decode cX10_finds 75 = .ok (.iaload, 1) := by decide +kernel
theorem dX10_finds_76 : decode cX10_finds 76 = .ok (.iconst 1, 1) := by decide +kernel
theorem dX10_finds_77 : decode cX10_finds 77 = .ok (.isub, 1) := by decide +kernel
theorem dX10_finds_78 : decode cX10_finds 78 = .ok (.iaload, 1) := by decide +kernel
theorem dX10_finds_79 : decode cX10_finds 79 = .ok (.iastore, 1) := by decide +kernel
