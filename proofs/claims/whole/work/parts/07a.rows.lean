theorem dX10_madeWord_138 : decode cX10_madeWord 138 = .ok (.iadd, 1) := by decide +kernel
theorem dX10_madeWord_139 : decode cX10_madeWord 139 = .ok (.iload 8, 2) := by decide +kernel
theorem dX10_madeWord_141 : decode cX10_madeWord 141 = .ok (.iadd, 1) := by decide +kernel
theorem dX10_madeWord_142 : decode cX10_madeWord 142 = .ok (.iaload, 1) := by decide +kernel
theorem dX10_madeWord_143 : decode cX10_madeWord 143 = .ok (.aload_n 0, 1) := by decide +kernel
theorem dX10_madeWord_144 : decode cX10_madeWord 144 = .ok (.getfield 48, 3) := by decide +kernel
theorem dX10_madeWord_147 : decode cX10_madeWord 147 = .ok (.bipush 91, 2) := by decide +kernel
theorem dX10_madeWord_149 : decode cX10_madeWord 149 = .ok (.iload_n 1, 1) := by decide +kernel
theorem dX10_madeWord_150 : decode cX10_madeWord 150 = .ok (.imul, 1) := by decide +kernel
theorem dX10_madeWord_151 : decode cX10_madeWord 151 = .ok (.iload 4, 2) := by decide +kernel
theorem dX10_madeWord_153 : decode cX10_madeWord 153 = .ok (.iadd, 1) := by decide +kernel
theorem dX10_madeWord_154 : decode cX10_madeWord 154 = .ok (.iconst 2, 1) := by decide +kernel
theorem dX10_madeWord_155 : decode cX10_madeWord 155 = .ok (.iload 8, 2) := by decide +kernel
theorem dX10_madeWord_157 : decode cX10_madeWord 157 = .ok (.imul, 1) := by decide +kernel
theorem dX10_madeWord_158 : decode cX10_madeWord 158 = .ok (.iadd, 1) := by decide +kernel
theorem dX10_madeWord_159 : decode cX10_madeWord 159 = .ok (.iaload, 1) := by decide +kernel
theorem dX10_madeWord_160 : decode cX10_madeWord 160 = .ok (.iand, 1) := by decide +kernel
theorem dX10_madeWord_161 : decode cX10_madeWord 161 = .ok (.iand, 1) := by decide +kernel
theorem dX10_madeWord_162 : decode cX10_madeWord 162 = .ok (.istore 7, 2) := by decide +kernel
theorem dX10_madeWord_164 : decode cX10_madeWord 164 = .ok (.goto 33, 3) := by decide +kernel
theorem dX10_madeWord_167 : decode cX10_madeWord 167 = .ok (.iload_n 2, 1) := by decide +kernel
theorem dX10_madeWord_168 : decode cX10_madeWord 168 = .ok (.iconst 3, 1) := by decide +kernel
theorem dX10_madeWord_169 : decode cX10_madeWord 169 = .ok (.if_icmp .ge 28, 3) := by decide +kernel
theorem dX10_madeWord_172 : decode cX10_madeWord 172 = .ok (.iload_n 3, 1) := by decide +kernel
theorem dX10_madeWord_173 : decode cX10_madeWord 173 = .ok (.iload_n 2, 1) := by decide +kernel
theorem dX10_madeWord_174 : decode cX10_madeWord 174 = .ok (.if_icmp .ge 23, 3) := by decide +kernel
theorem dX10_madeWord_177 : decode cX10_madeWord 177 = .ok (.iload 7, 2) := by decide +kernel
theorem dX10_madeWord_179 : decode cX10_madeWord 179 = .ok (.aload_n 0, 1) := by decide +kernel
theorem dX10_madeWord_180 : decode cX10_madeWord 180 = .ok (.getfield 48, 3) := by decide +kernel
theorem dX10_madeWord_183 : decode cX10_madeWord 183 = .ok (.bipush 91, 2) := by decide +kernel
theorem dX10_madeWord_185 : decode cX10_madeWord 185 = .ok (.iload_n 1, 1) := by decide +kernel
theorem dX10_madeWord_186 : decode cX10_madeWord 186 = .ok (.imul, 1) := by decide +kernel
theorem dX10_madeWord_187 : decode cX10_madeWord 187 = .ok (.iload 4, 2) := by decide +kernel
theorem dX10_madeWord_189 : decode cX10_madeWord 189 = .ok (.iadd, 1) := by decide +kernel
theorem dX10_madeWord_190 : decode cX10_madeWord 190 = .ok (.iload 8, 2) := by decide +kernel
theorem dX10_madeWord_192 : decode cX10_madeWord 192 = .ok (.iadd, 1) := by decide +kernel
theorem dX10_madeWord_193 : decode cX10_madeWord 193 = .ok (.iaload, 1) := by decide +kernel
theorem dX10_madeWord_194 : decode cX10_madeWord 194 = .ok (.iand, 1) := by decide +kernel
theorem dX10_madeWord_195 : decode cX10_madeWord 195 = .ok (.istore 7, 2) := by decide +kernel
theorem dX10_madeWord_197 : decode cX10_madeWord 197 = .ok (.iload 7, 2) := by decide +kernel
theorem dX10_madeWord_199 : decode cX10_madeWord 199 = .ok (.ireturn, 1) := by decide +kernel
set_option maxRecDepth 20000 in
theorem ggX10_partOf_X10_part_h : GoodIn wsX10_partOf [Cond.code yX10_part cX10_part 5 (some .int)] := goodIn_r _ [7] (by decide +kernel) (by decide +kernel)
set_option maxRecDepth 20000 in
theorem ggX10_partOf_X10_part_0 : GoodIn wsX10_partOf wsX10_part_r1 := goodIn_r _ [8, 9, 10, 11, 12, 13, 14, 6, 15, 16, 17, 18, 19, 20, 21, 22, 23, 24, 25, 26, 27, 28, 29, 30] (by decide +kernel) (by decide +kernel)
set_option maxRecDepth 20000 in
theorem ggX10_partOf_X10_part_1 : GoodIn wsX10_partOf wsX10_part_r2 := goodIn_r _ [31, 32, 33, 34, 35, 36, 37, 38] (by decide +kernel) (by decide +kernel)
set_option maxRecDepth 20000 in
theorem ggX10_partOf_X10_part_2 : GoodIn wsX10_partOf wsX100 := goodIn_r _ [51, 52, 53, 54, 55, 56, 57, 58, 59, 60, 61, 62, 63, 64, 65, 66, 67, 68, 69, 70, 71, 72, 73, 74, 75] (by decide +kernel) (by decide +kernel)
theorem ggX10_partOf_X10_part : GoodIn wsX10_partOf wsX10_part := goodIn_app ggX10_partOf_X10_part_h (goodIn_app (goodIn_app ggX10_partOf_X10_part_0 ggX10_partOf_X10_part_1) ggX10_partOf_X10_part_2)
set_option maxRecDepth 20000 in
theorem gX10_partOf_X10_part : GoodIn wsX10_partOf (wsV RX10 175 RX10 yX10_part wsX10_part) := goodIn_app (goodIn_of _ (by decide +kernel)) ggX10_partOf_X10_part
set_option maxRecDepth 20000 in
theorem ggX10_partOf_X10_implies_h : GoodIn wsX10_partOf [Cond.code yX10_implies cX10_implies 3 (some .int)] := goodIn_r _ [42] (by decide +kernel) (by decide +kernel)
set_option maxRecDepth 20000 in
theorem ggX10_partOf_X10_implies_0 : GoodIn wsX10_partOf wsX10_implies_r1 := goodIn_r _ [3, 4, 5, 6, 7, 8, 9, 10, 11, 12, 13, 14, 15, 16, 17, 18, 19, 20, 21, 22, 23, 24, 25, 26] (by decide +kernel) (by decide +kernel)
set_option maxRecDepth 20000 in
theorem ggX10_partOf_X10_implies_1 : GoodIn wsX10_partOf wsX10_implies_r2 := goodIn_r _ [27, 28, 29, 30, 31, 32, 33, 34, 35, 36, 37, 38] (by decide +kernel) (by decide +kernel)
set_option maxRecDepth 20000 in
theorem ggX10_partOf_X10_implies_2 : GoodIn wsX10_partOf wsX100 := goodIn_r _ [51, 52, 53, 54, 55, 56, 57, 58, 59, 60, 61, 62, 63, 64, 65, 66, 67, 68, 69, 70, 71, 72, 73, 74, 75] (by decide +kernel) (by decide +kernel)
theorem ggX10_partOf_X10_implies : GoodIn wsX10_partOf wsX10_implies := goodIn_app ggX10_partOf_X10_implies_h (goodIn_app (goodIn_app ggX10_partOf_X10_implies_0 ggX10_partOf_X10_implies_1) ggX10_partOf_X10_implies_2)
set_option maxRecDepth 20000 in
theorem gX10_partOf_X10_implies : GoodIn wsX10_partOf (wsV RX10 205 RX10 yX10_implies wsX10_implies) := goodIn_app (goodIn_of _ (by decide +kernel)) ggX10_partOf_X10_implies
set_option maxRecDepth 20000 in
theorem ggX10_partOf_X10_both_h : GoodIn wsX10_partOf [Cond.code yX10_both cX10_both 3 (some .int)] := goodIn_r _ [46] (by decide +kernel) (by decide +kernel)
set_option maxRecDepth 20000 in
theorem ggX10_partOf_X10_both_0 : GoodIn wsX10_partOf wsX10_both_r1 := goodIn_r _ [3, 4, 5, 6, 7, 8, 9, 10, 11, 12, 13, 14, 15, 16, 17, 18, 19, 20, 21, 22, 23, 24, 25, 26] (by decide +kernel) (by decide +kernel)
set_option maxRecDepth 20000 in
theorem ggX10_partOf_X10_both_1 : GoodIn wsX10_partOf wsX10_both_r2 := goodIn_r _ [27, 28, 29, 30, 31, 32, 33, 34, 35, 36, 37, 38] (by decide +kernel) (by decide +kernel)
set_option maxRecDepth 20000 in
theorem ggX10_partOf_X10_both_2 : GoodIn wsX10_partOf wsX100 := goodIn_r _ [51, 52, 53, 54, 55, 56, 57, 58, 59, 60, 61, 62, 63, 64, 65, 66, 67, 68, 69, 70, 71, 72, 73, 74, 75] (by decide +kernel) (by decide +kernel)
theorem ggX10_partOf_X10_both : GoodIn wsX10_partOf wsX10_both := goodIn_app ggX10_partOf_X10_both_h (goodIn_app (goodIn_app ggX10_partOf_X10_both_0 ggX10_partOf_X10_both_1) ggX10_partOf_X10_both_2)
set_option maxRecDepth 20000 in
theorem gX10_partOf_X10_both : GoodIn wsX10_partOf (wsV RX10 208 RX10 yX10_both wsX10_both) := goodIn_app (goodIn_of _ (by decide +kernel)) ggX10_partOf_X10_both
set_option maxRecDepth 20000 in
theorem ggX10_partOf_X10_either_h : GoodIn wsX10_partOf [Cond.code yX10_either cX10_either 3 (some .int)] := goodIn_r _ [50] (by decide +kernel) (by decide +kernel)
set_option maxRecDepth 20000 in
theorem ggX10_partOf_X10_either_0 : GoodIn wsX10_partOf wsX10_either_r1 := goodIn_r _ [3, 4, 5, 6, 7, 8, 9, 10, 11, 12, 13, 14, 15, 16, 17, 18, 19, 20, 21, 22, 23, 24, 25, 26] (by decide +kernel) (by decide +kernel)
set_option maxRecDepth 20000 in
theorem ggX10_partOf_X10_either_1 : GoodIn wsX10_partOf wsX10_either_r2 := goodIn_r _ [27, 28, 29, 30, 31, 32, 33, 34, 35, 36, 37, 38] (by decide +kernel) (by decide +kernel)
set_option maxRecDepth 20000 in
theorem ggX10_partOf_X10_either_2 : GoodIn wsX10_partOf wsX100 := goodIn_r _ [51, 52, 53, 54, 55, 56, 57, 58, 59, 60, 61, 62, 63, 64, 65, 66, 67, 68, 69, 70, 71, 72, 73, 74, 75] (by decide +kernel) (by decide +kernel)
theorem ggX10_partOf_X10_either : GoodIn wsX10_partOf wsX10_either := goodIn_app ggX10_partOf_X10_either_h (goodIn_app (goodIn_app ggX10_partOf_X10_either_0 ggX10_partOf_X10_either_1) ggX10_partOf_X10_either_2)
set_option maxRecDepth 20000 in
theorem gX10_partOf_X10_either : GoodIn wsX10_partOf (wsV RX10 211 RX10 yX10_either wsX10_either) := goodIn_app (goodIn_of _ (by decide +kernel)) ggX10_partOf_X10_either
theorem dX10_partOf_0 : decode cX10_partOf 0 = .ok (.bipush 17, 2) := by decide +kernel
theorem dX10_partOf_2 : decode cX10_partOf 2 = .ok (.bipush 31, 2) := by decide +kernel
theorem dX10_partOf_4 : decode cX10_partOf 4 = .ok (.iload_n 1, 1) := by decide +kernel
theorem dX10_partOf_5 : decode cX10_partOf 5 = .ok (.imul, 1) := by decide +kernel
theorem dX10_partOf_6 : decode cX10_partOf 6 = .ok (.iadd, 1) := by decide +kernel
theorem dX10_partOf_7 : decode cX10_partOf 7 = .ok (.istore_n 2, 1) := by decide +kernel
theorem dX10_partOf_8 : decode cX10_partOf 8 = .ok (.iconst 0, 1) := by decide +kernel
theorem dX10_partOf_9 : decode cX10_partOf 9 = .ok (.istore_n 3, 1) := by decide +kernel
theorem dX10_partOf_10 : decode cX10_partOf 10 = .ok (.iconst 1, 1) := by decide +kernel
theorem dX10_partOf_11 : decode cX10_partOf 11 = .ok (.istore 4, 2) := by decide +kernel
theorem dX10_partOf_13 : decode cX10_partOf 13 = .ok (.iload 4, 2) := by decide +kernel
theorem dX10_partOf_15 : decode cX10_partOf 15 = .ok (.aload_n 0, 1) := by decide +kernel
theorem dX10_partOf_16 : decode cX10_partOf 16 = .ok (.getfield 7, 3) := by decide +kernel
theorem dX10_partOf_19 : decode cX10_partOf 19 = .ok (.iload_n 2, 1) := by decide +kernel
theorem dX10_partOf_20 : decode cX10_partOf 20 = .ok (.iaload, 1) := by decide +kernel
theorem dX10_partOf_21 : decode cX10_partOf 21 = .ok (.if_icmp .gt 173, 3) := by decide +kernel
theorem dX10_partOf_24 : decode cX10_partOf 24 = .ok (.aload_n 0, 1) := by decide +kernel
theorem dX10_partOf_25 : decode cX10_partOf 25 = .ok (.getfield 7, 3) := by decide +kernel
theorem dX10_partOf_28 : decode cX10_partOf 28 = .ok (.iload_n 2, 1) := by decide +kernel
theorem dX10_partOf_29 : decode cX10_partOf 29 = .ok (.iload 4, 2) := by decide +kernel
theorem dX10_partOf_31 : decode cX10_partOf 31 = .ok (.iadd, 1) := by decide +kernel
theorem dX10_partOf_32 : decode cX10_partOf 32 = .ok (.iaload, 1) := by decide +kernel
theorem dX10_partOf_33 : decode cX10_partOf 33 = .ok (.istore 5, 2) := by decide +kernel
theorem dX10_partOf_35 : decode cX10_partOf 35 = .ok (.iload 5, 2) := by decide +kernel
theorem dX10_partOf_37 : decode cX10_partOf 37 = .ok (.iconst 4, 1) := by decide +kernel
theorem dX10_partOf_38 : decode cX10_partOf 38 = .ok (.if_icmp .ge 23, 3) := by decide +kernel
theorem dX10_partOf_41 : decode cX10_partOf 41 = .ok (.aload_n 0, 1) := by decide +kernel
theorem dX10_partOf_42 : decode cX10_partOf 42 = .ok (.getfield 35, 3) := by decide +kernel
theorem dX10_partOf_45 : decode cX10_partOf 45 = .ok (.iload_n 3, 1) := by decide +kernel
theorem dX10_partOf_46 : decode cX10_partOf 46 = .ok (.aload_n 0, 1) := by decide +kernel
theorem dX10_partOf_47 : decode cX10_partOf 47 = .ok (.iload 5, 2) := by decide +kernel
theorem dX10_partOf_49 : decode cX10_partOf 49 = .ok (.iconst 0, 1) := by decide +kernel
theorem dX10_partOf_50 : decode cX10_partOf 50 = .ok (.iconst 0, 1) := by decide +kernel
theorem dX10_partOf_51 : decode cX10_partOf 51 = .ok (.invokevirtual 175, 3) := by decide +kernel
theorem dX10_partOf_54 : decode cX10_partOf 54 = .ok (.iastore, 1) := by decide +kernel
theorem dX10_partOf_55 : decode cX10_partOf 55 = .ok (.iinc 3 1, 3) := by decide +kernel
theorem dX10_partOf_58 : decode cX10_partOf 58 = .ok (.goto 130, 3) := by decide +kernel
theorem dX10_partOf_61 : decode cX10_partOf 61 = .ok (.iload 5, 2) := by decide +kernel
theorem dX10_partOf_63 : decode cX10_partOf 63 = .ok (.bipush 6, 2) := by decide +kernel
theorem dX10_partOf_65 : decode cX10_partOf 65 = .ok (.if_icmp .ge 19, 3) := by decide +kernel
theorem dX10_partOf_68 : decode cX10_partOf 68 = .ok (.aload_n 0, 1) := by decide +kernel
theorem dX10_partOf_69 : decode cX10_partOf 69 = .ok (.getfield 35, 3) := by decide +kernel
theorem dX10_partOf_72 : decode cX10_partOf 72 = .ok (.iload_n 3, 1) := by decide +kernel
theorem dX10_partOf_73 : decode cX10_partOf 73 = .ok (.iload 5, 2) := by decide +kernel
theorem dX10_partOf_75 : decode cX10_partOf 75 = .ok (.iconst 4, 1) := by decide +kernel
theorem dX10_partOf_76 : decode cX10_partOf 76 = .ok (.isub, 1) := by decide +kernel
theorem dX10_partOf_77 : decode cX10_partOf 77 = .ok (.iastore, 1) := by decide +kernel
theorem dX10_partOf_78 : decode cX10_partOf 78 = .ok (.iinc 3 1, 3) := by decide +kernel
theorem dX10_partOf_81 : decode cX10_partOf 81 = .ok (.goto 107, 3) := by decide +kernel
theorem dX10_partOf_84 : decode cX10_partOf 84 = .ok (.iload 5, 2) := by decide +kernel
theorem dX10_partOf_86 : decode cX10_partOf 86 = .ok (.bipush 6, 2) := by decide +kernel
theorem dX10_partOf_88 : decode cX10_partOf 88 = .ok (.if_icmp .ne 27, 3) := by decide +kernel
theorem dX10_partOf_91 : decode cX10_partOf 91 = .ok (.aload_n 0, 1) := by decide +kernel
theorem dX10_partOf_92 : decode cX10_partOf 92 = .ok (.getfield 35, 3) := by decide +kernel
theorem dX10_partOf_95 : decode cX10_partOf 95 = .ok (.iload_n 3, 1) := by decide +kernel
theorem dX10_partOf_96 : decode cX10_partOf 96 = .ok (.iconst 1, 1) := by decide +kernel
theorem dX10_partOf_97 : decode cX10_partOf 97 = .ok (.isub, 1) := by decide +kernel
theorem dX10_partOf_98 : decode cX10_partOf 98 = .ok (.aload_n 0, 1) := by decide +kernel
theorem dX10_partOf_99 : decode cX10_partOf 99 = .ok (.aload_n 0, 1) := by decide +kernel
theorem dX10_partOf_100 : decode cX10_partOf 100 = .ok (.getfield 35, 3) := by decide +kernel
theorem dX10_partOf_103 : decode cX10_partOf 103 = .ok (.iload_n 3, 1) := by decide +kernel
theorem dX10_partOf_104 : decode cX10_partOf 104 = .ok (.iconst 1, 1) := by decide +kernel
theorem dX10_partOf_105 : decode cX10_partOf 105 = .ok (.isub, 1) := by decide +kernel
theorem dX10_partOf_106 : decode cX10_partOf 106 = .ok (.iaload, 1) := by decide +kernel
theorem dX10_partOf_107 : decode cX10_partOf 107 = .ok (.iconst 1, 1) := by decide +kernel
theorem dX10_partOf_108 : decode cX10_partOf 108 = .ok (.invokevirtual 205, 3) := by decide +kernel
theorem dX10_partOf_111 : decode cX10_partOf 111 = .ok (.iastore, 1) := by decide +kernel
theorem dX10_partOf_112 : decode cX10_partOf 112 = .ok (.goto 76, 3) := by decide +kernel
theorem dX10_partOf_115 : decode cX10_partOf 115 = .ok (.iinc 3 (-1), 3) := by decide +kernel
theorem dX10_partOf_118 : decode cX10_partOf 118 = .ok (.aload_n 0, 1) := by decide +kernel
theorem dX10_partOf_119 : decode cX10_partOf 119 = .ok (.getfield 35, 3) := by decide +kernel
theorem dX10_partOf_122 : decode cX10_partOf 122 = .ok (.iload_n 3, 1) := by decide +kernel
theorem dX10_partOf_123 : decode cX10_partOf 123 = .ok (.iconst 1, 1) := by decide +kernel
theorem dX10_partOf_124 : decode cX10_partOf 124 = .ok (.isub, 1) := by decide +kernel
theorem dX10_partOf_125 : decode cX10_partOf 125 = .ok (.iaload, 1) := by decide +kernel
theorem dX10_partOf_126 : decode cX10_partOf 126 = .ok (.istore 6, 2) := by decide +kernel
theorem dX10_partOf_128 : decode cX10_partOf 128 = .ok (.aload_n 0, 1) := by decide +kernel
theorem dX10_partOf_129 : decode cX10_partOf 129 = .ok (.getfield 35, 3) := by decide +kernel
theorem dX10_partOf_132 : decode cX10_partOf 132 = .ok (.iload_n 3, 1) := by decide +kernel
theorem dX10_partOf_133 : decode cX10_partOf 133 = .ok (.iaload, 1) := by decide +kernel
theorem dX10_partOf_134 : decode cX10_partOf 134 = .ok (.istore 7, 2) := by decide +kernel
theorem dX10_partOf_136 : decode cX10_partOf 136 = .ok (.aload_n 0, 1) := by decide +kernel
theorem dX10_partOf_137 : decode cX10_partOf 137 = .ok (.getfield 35, 3) := by decide +kernel
theorem dX10_partOf_140 : decode cX10_partOf 140 = .ok (.iload_n 3, 1) := by decide +kernel
theorem dX10_partOf_141 : decode cX10_partOf 141 = .ok (.iconst 1, 1) := by decide +kernel
theorem dX10_partOf_142 : decode cX10_partOf 142 = .ok (.isub, 1) := by decide +kernel
theorem dX10_partOf_143 : decode cX10_partOf 143 = .ok (.iload 5, 2) := by decide +kernel
theorem dX10_partOf_145 : decode cX10_partOf 145 = .ok (.bipush 7, 2) := by decide +kernel
theorem dX10_partOf_147 : decode cX10_partOf 147 = .ok (.if_icmp .ne 14, 3) := by decide +kernel
theorem dX10_partOf_150 : decode cX10_partOf 150 = .ok (.aload_n 0, 1) := by decide +kernel
theorem dX10_partOf_151 : decode cX10_partOf 151 = .ok (.iload 6, 2) := by decide +kernel
theorem dX10_partOf_153 : decode cX10_partOf 153 = .ok (.iload 7, 2) := by decide +kernel
theorem dX10_partOf_155 : decode cX10_partOf 155 = .ok (.invokevirtual 208, 3) := by decide +kernel
theorem dX10_partOf_158 : decode cX10_partOf 158 = .ok (.goto 29, 3) := by decide +kernel
theorem dX10_partOf_161 : decode cX10_partOf 161 = .ok (.iload 5, 2) := by decide +kernel
theorem dX10_partOf_163 : decode cX10_partOf 163 = .ok (.bipush 8, 2) := by decide +kernel
theorem dX10_partOf_165 : decode cX10_partOf 165 = .ok (.if_icmp .ne 14, 3) := by decide +kernel
theorem dX10_partOf_168 : decode cX10_partOf 168 = .ok (.aload_n 0, 1) := by decide +kernel
theorem dX10_partOf_169 : decode cX10_partOf 169 = .ok (.iload 6, 2) := by decide +kernel
theorem dX10_partOf_171 : decode cX10_partOf 171 = .ok (.iload 7, 2) := by decide +kernel
theorem dX10_partOf_173 : decode cX10_partOf 173 = .ok (.invokevirtual 211, 3) := by decide +kernel
theorem dX10_partOf_176 : decode cX10_partOf 176 = .ok (.goto 11, 3) := by decide +kernel
theorem dX10_partOf_179 : decode cX10_partOf 179 = .ok (.aload_n 0, 1) := by decide +kernel
theorem dX10_partOf_180 : decode cX10_partOf 180 = .ok (.iload 6, 2) := by decide +kernel
theorem dX10_partOf_182 : decode cX10_partOf 182 = .ok (.iload 7, 2) := by decide +kernel
theorem dX10_partOf_184 : decode cX10_partOf 184 = .ok (.invokevirtual 205, 3) := by decide +kernel
theorem dX10_partOf_187 : decode cX10_partOf 187 = .ok (.iastore, 1) := by decide +kernel
theorem dX10_partOf_188 : decode cX10_partOf 188 = .ok (.iinc 4 1, 3) := by decide +kernel
theorem dX10_partOf_191 : decode cX10_partOf 191 = .ok (.goto (-178), 3) := by decide +kernel
theorem dX10_partOf_194 : decode cX10_partOf 194 = .ok (.aload_n 0, 1) := by decide +kernel
theorem dX10_partOf_195 : decode cX10_partOf 195 = .ok (.getfield 35, 3) := by decide +kernel
theorem dX10_partOf_198 : decode cX10_partOf 198 = .ok (.iconst 0, 1) := by decide +kernel
theorem dX10_partOf_199 : decode cX10_partOf 199 = .ok (.iaload, 1) := by decide +kernel
theorem dX10_partOf_200 : decode cX10_partOf 200 = .ok (.ireturn, 1) := by decide +kernel
theorem dX10_has_0 : decode cX10_has 0 = .ok (.aload_n 0, 1) := by decide +kernel
theorem dX10_has_1 : decode cX10_has 1 = .ok (.getfield 51, 3) := by decide +kernel
theorem dX10_has_4 : decode cX10_has 4 = .ok (.bipush 32, 2) := by decide +kernel
theorem dX10_has_6 : decode cX10_has 6 = .ok (.iload_n 1, 1) := by decide +kernel
theorem dX10_has_7 : decode cX10_has 7 = .ok (.imul, 1) := by decide +kernel
theorem dX10_has_8 : decode cX10_has 8 = .ok (.iload_n 2, 1) := by decide +kernel
theorem dX10_has_9 : decode cX10_has 9 = .ok (.bipush 32, 2) := by decide +kernel
theorem dX10_has_11 : decode cX10_has 11 = .ok (.idiv, 1) := by decide +kernel
theorem dX10_has_12 : decode cX10_has 12 = .ok (.iadd, 1) := by decide +kernel
theorem dX10_has_13 : decode cX10_has 13 = .ok (.iaload, 1) := by decide +kernel
theorem dX10_has_14 : decode cX10_has 14 = .ok (.iload_n 2, 1) := by decide +kernel
theorem dX10_has_15 : decode cX10_has 15 = .ok (.bipush 32, 2) := by decide +kernel
theorem dX10_has_17 : decode cX10_has 17 = .ok (.irem, 1) := by decide +kernel
theorem dX10_has_18 : decode cX10_has 18 = .ok (.iushr, 1) := by decide +kernel
theorem dX10_has_19 : decode cX10_has 19 = .ok (.iconst 1, 1) := by decide +kernel
theorem dX10_has_20 : decode cX10_has 20 = .ok (.iand, 1) := by decide +kernel
theorem dX10_has_21 : decode cX10_has 21 = .ok (.iconst 1, 1) := by decide +kernel
theorem dX10_has_22 : decode cX10_has 22 = .ok (.if_icmp .ne 7, 3) := by decide +kernel
theorem dX10_has_25 : decode cX10_has 25 = .ok (.iconst 1, 1) := by decide +kernel
theorem dX10_has_26 : decode cX10_has 26 = .ok (.goto 4, 3) := by decide +kernel
theorem dX10_has_29 : decode cX10_has 29 = .ok (.iconst 0, 1) := by decide +kernel
theorem dX10_has_30 : decode cX10_has 30 = .ok (.ireturn, 1) := by decide +kernel
theorem dX10_gets_0 : decode cX10_gets 0 = .ok (.aload_n 0, 1) := by decide +kernel
theorem dX10_gets_1 : decode cX10_gets 1 = .ok (.getfield 51, 3) := by decide +kernel
theorem dX10_gets_4 : decode cX10_gets 4 = .ok (.bipush 32, 2) := by decide +kernel
theorem dX10_gets_6 : decode cX10_gets 6 = .ok (.iload_n 1, 1) := by decide +kernel
theorem dX10_gets_7 : decode cX10_gets 7 = .ok (.imul, 1) := by decide +kernel
theorem dX10_gets_8 : decode cX10_gets 8 = .ok (.iload_n 2, 1) := by decide +kernel
theorem dX10_gets_9 : decode cX10_gets 9 = .ok (.bipush 32, 2) := by decide +kernel
theorem dX10_gets_11 : decode cX10_gets 11 = .ok (.idiv, 1) := by decide +kernel
theorem dX10_gets_12 : decode cX10_gets 12 = .ok (.iadd, 1) := by decide +kernel
theorem dX10_gets_13 : decode cX10_gets 13 = .ok (.dup2, 1) := by decide +kernel
theorem dX10_gets_14 : decode cX10_gets 14 = .ok (.iaload, 1) := by decide +kernel
theorem dX10_gets_15 : decode cX10_gets 15 = .ok (.iconst 1, 1) := by decide +kernel
theorem dX10_gets_16 : decode cX10_gets 16 = .ok (.iload_n 2, 1) := by decide +kernel
theorem dX10_gets_17 : decode cX10_gets 17 = .ok (.bipush 32, 2) := by decide +kernel
theorem dX10_gets_19 : decode cX10_gets 19 = .ok (.irem, 1) := by decide +kernel
theorem dX10_gets_20 : decode cX10_gets 20 = .ok (.ishl, 1) := by decide +kernel
theorem dX10_gets_21 : decode cX10_gets 21 = .ok (.ior, 1) := by decide +kernel
theorem dX10_gets_22 : decode cX10_gets 22 = .ok (.iastore, 1) := by decide +kernel
theorem dX10_gets_23 : decode cX10_gets 23 = .ok (.return_, 1) := by decide +kernel
theorem dX10_loses_0 : decode cX10_loses 0 = .ok (.aload_n 0, 1) := by decide +kernel
theorem dX10_loses_1 : decode cX10_loses 1 = .ok (.getfield 51, 3) := by decide +kernel
theorem dX10_loses_4 : decode cX10_loses 4 = .ok (.bipush 32, 2) := by decide +kernel
theorem dX10_loses_6 : decode cX10_loses 6 = .ok (.iload_n 1, 1) := by decide +kernel
theorem dX10_loses_7 : decode cX10_loses 7 = .ok (.imul, 1) := by decide +kernel
theorem dX10_loses_8 : decode cX10_loses 8 = .ok (.iload_n 2, 1) := by decide +kernel
theorem dX10_loses_9 : decode cX10_loses 9 = .ok (.bipush 32, 2) := by decide +kernel
theorem dX10_loses_11 : decode cX10_loses 11 = .ok (.idiv, 1) := by decide +kernel
theorem dX10_loses_12 : decode cX10_loses 12 = .ok (.iadd, 1) := by decide +kernel
theorem dX10_loses_13 : decode cX10_loses 13 = .ok (.dup2, 1) := by decide +kernel
theorem dX10_loses_14 : decode cX10_loses 14 = .ok (.iaload, 1) := by decide +kernel
theorem dX10_loses_15 : decode cX10_loses 15 = .ok (.iconst 1, 1) := by decide +kernel
theorem dX10_loses_16 : decode cX10_loses 16 = .ok (.iload_n 2, 1) := by decide +kernel
theorem dX10_loses_17 : decode cX10_loses 17 = .ok (.bipush 32, 2) := by decide +kernel
theorem dX10_loses_19 : decode cX10_loses 19 = .ok (.irem, 1) := by decide +kernel
theorem dX10_loses_20 : decode cX10_loses 20 = .ok (.ishl, 1) := by decide +kernel
theorem dX10_loses_21 : decode cX10_loses 21 = .ok (.iconst (-1), 1) := by decide +kernel
theorem dX10_loses_22 : decode cX10_loses 22 = .ok (.ixor, 1) := by decide +kernel
theorem dX10_loses_23 : decode cX10_loses 23 = .ok (.iand, 1) := by decide +kernel
theorem dX10_loses_24 : decode cX10_loses 24 = .ok (.iastore, 1) := by decide +kernel
theorem dX10_loses_25 : decode cX10_loses 25 = .ok (.return_, 1) := by decide +kernel
theorem dX10_leadsOn_0 : decode cX10_leadsOn 0 = .ok (.iconst 0, 1) := by decide +kernel
theorem dX10_leadsOn_1 : decode cX10_leadsOn 1 = .ok (.istore_n 3, 1) := by decide +kernel
theorem dX10_leadsOn_2 : decode cX10_leadsOn 2 = .ok (.iload_n 3, 1) := by decide +kernel
theorem dX10_leadsOn_3 : decode cX10_leadsOn 3 = .ok (.bipush 32, 2) := by decide +kernel
theorem dX10_leadsOn_5 : decode cX10_leadsOn 5 = .ok (.if_icmp .ge 34, 3) := by decide +kernel
theorem dX10_leadsOn_8 : decode cX10_leadsOn 8 = .ok (.aload_n 0, 1) := by decide +kernel
theorem dX10_leadsOn_9 : decode cX10_leadsOn 9 = .ok (.getfield 51, 3) := by decide +kernel
theorem dX10_leadsOn_12 : decode cX10_leadsOn 12 = .ok (.bipush 32, 2) := by decide +kernel
theorem dX10_leadsOn_14 : decode cX10_leadsOn 14 = .ok (.iload_n 1, 1) := by decide +kernel
theorem dX10_leadsOn_15 : decode cX10_leadsOn 15 = .ok (.imul, 1) := by decide +kernel
theorem dX10_leadsOn_16 : decode cX10_leadsOn 16 = .ok (.bipush 32, 2) := by decide +kernel
theorem dX10_leadsOn_18 : decode cX10_leadsOn 18 = .ok (.iadd, 1) := by decide +kernel
theorem dX10_leadsOn_19 : decode cX10_leadsOn 19 = .ok (.iload_n 3, 1) := by decide +kernel
theorem dX10_leadsOn_20 : decode cX10_leadsOn 20 = .ok (.iadd, 1) := by decide +kernel
theorem dX10_leadsOn_21 : decode cX10_leadsOn 21 = .ok (.aload_n 0, 1) := by decide +kernel
theorem dX10_leadsOn_22 : decode cX10_leadsOn 22 = .ok (.getfield 51, 3) := by decide +kernel
theorem dX10_leadsOn_25 : decode cX10_leadsOn 25 = .ok (.bipush 32, 2) := by decide +kernel
theorem dX10_leadsOn_27 : decode cX10_leadsOn 27 = .ok (.iload_n 1, 1) := by decide +kernel
theorem dX10_leadsOn_28 : decode cX10_leadsOn 28 = .ok (.imul, 1) := by decide +kernel
theorem dX10_leadsOn_29 : decode cX10_leadsOn 29 = .ok (.iload_n 3, 1) := by decide +kernel
theorem dX10_leadsOn_30 : decode cX10_leadsOn 30 = .ok (.iadd, 1) := by decide +kernel
theorem dX10_leadsOn_31 : decode cX10_leadsOn 31 = .ok (.iaload, 1) := by decide +kernel
theorem dX10_leadsOn_32 : decode cX10_leadsOn 32 = .ok (.iastore, 1) := by decide +kernel
theorem dX10_leadsOn_33 : decode cX10_leadsOn 33 = .ok (.iinc 3 1, 3) := by decide +kernel
theorem dX10_leadsOn_36 : decode cX10_leadsOn 36 = .ok (.goto (-34), 3) := by decide +kernel
theorem dX10_leadsOn_39 : decode cX10_leadsOn 39 = .ok (.aload_n 0, 1) := by decide +kernel
theorem dX10_leadsOn_40 : decode cX10_leadsOn 40 = .ok (.getfield 54, 3) := by decide +kernel
theorem dX10_leadsOn_43 : decode cX10_leadsOn 43 = .ok (.iload_n 1, 1) := by decide +kernel
theorem dX10_leadsOn_44 : decode cX10_leadsOn 44 = .ok (.iconst 1, 1) := by decide +kernel
theorem dX10_leadsOn_45 : decode cX10_leadsOn 45 = .ok (.iadd, 1) := by decide +kernel
theorem dX10_leadsOn_46 : decode cX10_leadsOn 46 = .ok (.iload_n 2, 1) := by decide +kernel
theorem dX10_leadsOn_47 : decode cX10_leadsOn 47 = .ok (.iastore, 1) := by decide +kernel
theorem dX10_leadsOn_48 : decode cX10_leadsOn 48 = .ok (.aload_n 0, 1) := by decide +kernel
theorem dX10_leadsOn_49 : decode cX10_leadsOn 49 = .ok (.getfield 57, 3) := by decide +kernel
theorem dX10_leadsOn_52 : decode cX10_leadsOn 52 = .ok (.iload_n 1, 1) := by decide +kernel
theorem dX10_leadsOn_53 : decode cX10_leadsOn 53 = .ok (.iconst 1, 1) := by decide +kernel
theorem dX10_leadsOn_54 : decode cX10_leadsOn 54 = .ok (.iadd, 1) := by decide +kernel
theorem dX10_leadsOn_55 : decode cX10_leadsOn 55 = .ok (.iconst 0, 1) := by decide +kernel
theorem dX10_leadsOn_56 : decode cX10_leadsOn 56 = .ok (.iastore, 1) := by decide +kernel
theorem dX10_leadsOn_57 : decode cX10_leadsOn 57 = .ok (.return_, 1) := by decide +kernel
set_option maxRecDepth 20000 in
theorem ggX10_refutes_X10_wordEnd : GoodIn wsX10_refutes wsX10_wordEnd := goodIn_r _ [8] (by decide +kernel) (by decide +kernel)
set_option maxRecDepth 20000 in
theorem gX10_refutes_X10_wordEnd : GoodIn wsX10_refutes (va_wsS RX10 215 yX10_wordEnd wsX10_wordEnd) := goodIn_app (goodIn_of _ (by decide +kernel)) ggX10_refutes_X10_wordEnd
set_option maxRecDepth 20000 in
theorem ggX10_refutes_X10_has : GoodIn wsX10_refutes wsX10_has := goodIn_r _ [12, 13, 14, 15, 16, 17, 18, 19, 20, 21, 22, 23, 24, 25, 26, 27, 28, 29, 30, 31, 32, 33, 34, 35, 36, 37, 38] (by decide +kernel) (by decide +kernel)
set_option maxRecDepth 20000 in
theorem gX10_refutes_X10_has : GoodIn wsX10_refutes (wsV RX10 218 RX10 yX10_has wsX10_has) := goodIn_app (goodIn_of _ (by decide +kernel)) ggX10_refutes_X10_has
theorem dX10_refutes_0 : decode cX10_refutes 0 = .ok (.iconst 1, 1) := by decide +kernel
theorem dX10_refutes_1 : decode cX10_refutes 1 = .ok (.istore_n 2, 1) := by decide +kernel
theorem dX10_refutes_2 : decode cX10_refutes 2 = .ok (.iconst 0, 1) := by decide +kernel
theorem dX10_refutes_3 : decode cX10_refutes 3 = .ok (.istore_n 3, 1) := by decide +kernel
theorem dX10_refutes_4 : decode cX10_refutes 4 = .ok (.iconst 0, 1) := by decide +kernel
theorem dX10_refutes_5 : decode cX10_refutes 5 = .ok (.istore 4, 2) := by decide +kernel
theorem dX10_refutes_7 : decode cX10_refutes 7 = .ok (.iload 4, 2) := by decide +kernel
theorem dX10_refutes_9 : decode cX10_refutes 9 = .ok (.bipush 91, 2) := by decide +kernel
theorem dX10_refutes_11 : decode cX10_refutes 11 = .ok (.if_icmp .ge 171, 3) := by decide +kernel
theorem dX10_refutes_14 : decode cX10_refutes 14 = .ok (.iload 4, 2) := by decide +kernel
theorem dX10_refutes_16 : decode cX10_refutes 16 = .ok (.ifCond .ne 8, 3) := by decide +kernel
theorem dX10_refutes_19 : decode cX10_refutes 19 = .ok (.ldc 214, 2) := by decide +kernel
theorem dX10_refutes_21 : decode cX10_refutes 21 = .ok (.goto 47, 3) := by decide +kernel
theorem dX10_refutes_24 : decode cX10_refutes 24 = .ok (.iload 4, 2) := by decide +kernel
theorem dX10_refutes_26 : decode cX10_refutes 26 = .ok (.bipush 7, 2) := by decide +kernel
theorem dX10_refutes_28 : decode cX10_refutes 28 = .ok (.if_icmp .ge 16, 3) := by decide +kernel
theorem dX10_refutes_31 : decode cX10_refutes 31 = .ok (.iload 4, 2) := by decide +kernel
theorem dX10_refutes_33 : decode cX10_refutes 33 = .ok (.iconst 1, 1) := by decide +kernel
theorem dX10_refutes_34 : decode cX10_refutes 34 = .ok (.isub, 1) := by decide +kernel
theorem dX10_refutes_35 : decode cX10_refutes 35 = .ok (.iconst 3, 1) := by decide +kernel
theorem dX10_refutes_36 : decode cX10_refutes 36 = .ok (.bipush 81, 2) := by decide +kernel
theorem dX10_refutes_38 : decode cX10_refutes 38 = .ok (.invokestatic 215, 3) := by decide +kernel
theorem dX10_refutes_41 : decode cX10_refutes 41 = .ok (.goto 27, 3) := by decide +kernel
theorem dX10_refutes_44 : decode cX10_refutes 44 = .ok (.iload 4, 2) := by decide +kernel
theorem dX10_refutes_46 : decode cX10_refutes 46 = .ok (.bipush 31, 2) := by decide +kernel
theorem dX10_refutes_48 : decode cX10_refutes 48 = .ok (.if_icmp .ge 7, 3) := by decide +kernel
theorem dX10_refutes_51 : decode cX10_refutes 51 = .ok (.iconst (-1), 1) := by decide +kernel
theorem dX10_refutes_52 : decode cX10_refutes 52 = .ok (.goto 16, 3) := by decide +kernel
theorem dX10_refutes_55 : decode cX10_refutes 55 = .ok (.iload 4, 2) := by decide +kernel
theorem dX10_refutes_57 : decode cX10_refutes 57 = .ok (.bipush 31, 2) := by decide +kernel
theorem dX10_refutes_59 : decode cX10_refutes 59 = .ok (.isub, 1) := by decide +kernel
theorem dX10_refutes_60 : decode cX10_refutes 60 = .ok (.bipush 20, 2) := by decide +kernel
theorem dX10_refutes_62 : decode cX10_refutes 62 = .ok (.sipush 625, 3) := by decide +kernel
theorem dX10_refutes_65 : decode cX10_refutes 65 = .ok (.invokestatic 215, 3) := by decide +kernel
theorem dX10_refutes_68 : decode cX10_refutes 68 = .ok (.istore 5, 2) := by decide +kernel
theorem dX10_refutes_70 : decode cX10_refutes 70 = .ok (.iconst 0, 1) := by decide +kernel
theorem dX10_refutes_71 : decode cX10_refutes 71 = .ok (.istore 6, 2) := by decide +kernel
theorem dX10_refutes_73 : decode cX10_refutes 73 = .ok (.iload 6, 2) := by decide +kernel
theorem dX10_refutes_75 : decode cX10_refutes 75 = .ok (.aload_n 0, 1) := by decide +kernel
theorem dX10_refutes_76 : decode cX10_refutes 76 = .ok (.getfield 172, 3) := by decide +kernel
theorem dX10_refutes_79 : decode cX10_refutes 79 = .ok (.if_icmp .ge 46, 3) := by decide +kernel
theorem dX10_refutes_82 : decode cX10_refutes 82 = .ok (.iload 5, 2) := by decide +kernel
theorem dX10_refutes_84 : decode cX10_refutes 84 = .ok (.ifCond .eq 41, 3) := by decide +kernel
theorem dX10_refutes_87 : decode cX10_refutes 87 = .ok (.iload 5, 2) := by decide +kernel
theorem dX10_refutes_89 : decode cX10_refutes 89 = .ok (.aload_n 0, 1) := by decide +kernel
theorem dX10_refutes_90 : decode cX10_refutes 90 = .ok (.iload_n 1, 1) := by decide +kernel
theorem dX10_refutes_91 : decode cX10_refutes 91 = .ok (.iload 6, 2) := by decide +kernel
theorem dX10_refutes_93 : decode cX10_refutes 93 = .ok (.invokevirtual 218, 3) := by decide +kernel
theorem dX10_refutes_96 : decode cX10_refutes 96 = .ok (.ifCond .eq 19, 3) := by decide +kernel
theorem dX10_refutes_99 : decode cX10_refutes 99 = .ok (.aload_n 0, 1) := by decide +kernel
theorem dX10_refutes_100 : decode cX10_refutes 100 = .ok (.getfield 48, 3) := by decide +kernel
theorem dX10_refutes_103 : decode cX10_refutes 103 = .ok (.bipush 91, 2) := by decide +kernel
theorem dX10_refutes_105 : decode cX10_refutes 105 = .ok (.iload 6, 2) := by decide +kernel
theorem dX10_refutes_107 : decode cX10_refutes 107 = .ok (.imul, 1) := by decide +kernel
theorem dX10_refutes_108 : decode cX10_refutes 108 = .ok (.iload 4, 2) := by decide +kernel
theorem dX10_refutes_110 : decode cX10_refutes 110 = .ok (.iadd, 1) := by decide +kernel
theorem dX10_refutes_111 : decode cX10_refutes 111 = .ok (.iaload, 1) := by decide +kernel
theorem dX10_refutes_112 : decode cX10_refutes 112 = .ok (.goto 4, 3) := by decide +kernel
theorem dX10_refutes_115 : decode cX10_refutes 115 = .ok (.iconst (-1), 1) := by decide +kernel
theorem dX10_refutes_116 : decode cX10_refutes 116 = .ok (.iand, 1) := by decide +kernel
theorem dX10_refutes_117 : decode cX10_refutes 117 = .ok (.istore 5, 2) := by decide +kernel
theorem dX10_refutes_119 : decode cX10_refutes 119 = .ok (.iinc 6 1, 3) := by decide +kernel
theorem dX10_refutes_122 : decode cX10_refutes 122 = .ok (.goto (-49), 3) := by decide +kernel
theorem dX10_refutes_125 : decode cX10_refutes 125 = .ok (.iload_n 2, 1) := by decide +kernel
theorem dX10_refutes_126 : decode cX10_refutes 126 = .ok (.iload 4, 2) := by decide +kernel
theorem dX10_refutes_128 : decode cX10_refutes 128 = .ok (.ifCond .gt 8, 3) := by decide +kernel
theorem dX10_refutes_131 : decode cX10_refutes 131 = .ok (.iload 5, 2) := by decide +kernel
theorem dX10_refutes_133 : decode cX10_refutes 133 = .ok (.ifCond .ne 7, 3) := by decide +kernel
theorem dX10_refutes_136 : decode cX10_refutes 136 = .ok (.iconst 1, 1) := by decide +kernel
theorem dX10_refutes_137 : decode cX10_refutes 137 = .ok (.goto 4, 3) := by decide +kernel
theorem dX10_refutes_140 : decode cX10_refutes 140 = .ok (.iconst 0, 1) := by decide +kernel
theorem dX10_refutes_141 : decode cX10_refutes 141 = .ok (.iand, 1) := by decide +kernel
theorem dX10_refutes_142 : decode cX10_refutes 142 = .ok (.istore_n 2, 1) := by decide +kernel
theorem dX10_refutes_143 : decode cX10_refutes 143 = .ok (.iload_n 3, 1) := by decide +kernel
theorem dX10_refutes_144 : decode cX10_refutes 144 = .ok (.iload 5, 2) := by decide +kernel
theorem dX10_refutes_146 : decode cX10_refutes 146 = .ok (.aload_n 0, 1) := by decide +kernel
theorem dX10_refutes_147 : decode cX10_refutes 147 = .ok (.getfield 48, 3) := by decide +kernel
theorem dX10_refutes_150 : decode cX10_refutes 150 = .ok (.bipush 91, 2) := by decide +kernel
theorem dX10_refutes_152 : decode cX10_refutes 152 = .ok (.aload_n 0, 1) := by decide +kernel
theorem dX10_refutes_153 : decode cX10_refutes 153 = .ok (.getfield 54, 3) := by decide +kernel
theorem dX10_refutes_156 : decode cX10_refutes 156 = .ok (.iload_n 1, 1) := by decide +kernel
theorem dX10_refutes_157 : decode cX10_refutes 157 = .ok (.iaload, 1) := by decide +kernel
theorem dX10_refutes_158 : decode cX10_refutes 158 = .ok (.imul, 1) := by decide +kernel
theorem dX10_refutes_159 : decode cX10_refutes 159 = .ok (.iload 4, 2) := by decide +kernel
theorem dX10_refutes_161 : decode cX10_refutes 161 = .ok (.iadd, 1) := by decide +kernel
theorem dX10_refutes_162 : decode cX10_refutes 162 = .ok (.iaload, 1) := by decide +kernel
theorem dX10_refutes_163 : decode cX10_refutes 163 = .ok (.iconst (-1), 1) := by decide +kernel
theorem dX10_refutes_164 : decode cX10_refutes 164 = .ok (.ixor, 1) := by decide +kernel
theorem dX10_refutes_165 : decode cX10_refutes 165 = .ok (.iand, 1) := by decide +kernel
theorem dX10_refutes_166 : decode cX10_refutes 166 = .ok (.ifCond .eq 7, 3) := by decide +kernel
theorem dX10_refutes_169 : decode cX10_refutes 169 = .ok (.iconst 1, 1) := by decide +kernel
theorem dX10_refutes_170 : decode cX10_refutes 170 = .ok (.goto 4, 3) := by decide +kernel
theorem dX10_refutes_173 : decode cX10_refutes 173 = .ok (.iconst 0, 1) := by decide +kernel
theorem dX10_refutes_174 : decode cX10_refutes 174 = .ok (.ior, 1) := by decide +kernel
theorem dX10_refutes_175 : decode cX10_refutes 175 = .ok (.istore_n 3, 1) := by decide +kernel
theorem dX10_refutes_176 : decode cX10_refutes 176 = .ok (.iinc 4 1, 3) := by decide +kernel
theorem dX10_refutes_179 : decode cX10_refutes 179 = .ok (.goto (-172), 3) := by decide +kernel
theorem dX10_refutes_182 : decode cX10_refutes 182 = .ok (.iload_n 2, 1) := by decide +kernel
theorem dX10_refutes_183 : decode cX10_refutes 183 = .ok (.ifCond .eq 7, 3) := by decide +kernel
theorem dX10_refutes_186 : decode cX10_refutes 186 = .ok (.iconst 2, 1) := by decide +kernel
theorem dX10_refutes_187 : decode cX10_refutes 187 = .ok (.goto 12, 3) := by decide +kernel
theorem dX10_refutes_190 : decode cX10_refutes 190 = .ok (.iload_n 3, 1) := by decide +kernel
theorem dX10_refutes_191 : decode cX10_refutes 191 = .ok (.ifCond .eq 7, 3) := by decide +kernel
theorem dX10_refutes_194 : decode cX10_refutes 194 = .ok (.iconst 1, 1) := by decide +kernel
theorem dX10_refutes_195 : decode cX10_refutes 195 = .ok (.goto 4, 3) := by decide +kernel
theorem dX10_refutes_198 : decode cX10_refutes 198 = .ok (.iconst 0, 1) := by decide +kernel
theorem dX10_refutes_199 : decode cX10_refutes 199 = .ok (.ireturn, 1) := by decide +kernel
theorem dX10_wordEnd_0 : decode cX10_wordEnd 0 = .ok (.iload_n 2, 1) := by decide +kernel
theorem dX10_wordEnd_1 : decode cX10_wordEnd 1 = .ok (.bipush 32, 2) := by decide +kernel
theorem dX10_wordEnd_3 : decode cX10_wordEnd 3 = .ok (.iload_n 0, 1) := by decide +kernel
theorem dX10_wordEnd_4 : decode cX10_wordEnd 4 = .ok (.iload_n 1, 1) := by decide +kernel
theorem dX10_wordEnd_5 : decode cX10_wordEnd 5 = .ok (.irem, 1) := by decide +kernel
theorem dX10_wordEnd_6 : decode cX10_wordEnd 6 = .ok (.imul, 1) := by decide +kernel
theorem dX10_wordEnd_7 : decode cX10_wordEnd 7 = .ok (.isub, 1) := by decide +kernel
theorem dX10_wordEnd_8 : decode cX10_wordEnd 8 = .ok (.istore_n 3, 1) := by decide +kernel
theorem dX10_wordEnd_9 : decode cX10_wordEnd 9 = .ok (.iload_n 3, 1) := by decide +kernel
theorem dX10_wordEnd_10 : decode cX10_wordEnd 10 = .ok (.bipush 32, 2) := by decide +kernel
theorem dX10_wordEnd_12 : decode cX10_wordEnd 12 = .ok (.if_icmp .lt 7, 3) := by decide +kernel
theorem dX10_wordEnd_15 : decode cX10_wordEnd 15 = .ok (.iconst (-1), 1) := by decide +kernel
theorem dX10_wordEnd_16 : decode cX10_wordEnd 16 = .ok (.goto 8, 3) := by decide +kernel
theorem dX10_wordEnd_19 : decode cX10_wordEnd 19 = .ok (.iconst 1, 1) := by decide +kernel
theorem dX10_wordEnd_20 : decode cX10_wordEnd 20 = .ok (.iload_n 3, 1) := by decide +kernel
theorem dX10_wordEnd_21 : decode cX10_wordEnd 21 = .ok (.ishl, 1) := by decide +kernel
theorem dX10_wordEnd_22 : decode cX10_wordEnd 22 = .ok (.iconst 1, 1) := by decide +kernel
theorem dX10_wordEnd_23 : decode cX10_wordEnd 23 = .ok (.isub, 1) := by decide +kernel
theorem dX10_wordEnd_24 : decode cX10_wordEnd 24 = .ok (.ireturn, 1) := by decide +kernel
set_option maxRecDepth 20000 in
theorem ggX10_loosens_X10_loses : GoodIn wsX10_loosens wsX10_loses := goodIn_r _ [8, 9, 54, 55, 56, 57, 58, 59, 60, 61, 62, 63, 64, 65, 66, 67, 68, 69, 70, 71, 72, 73, 74, 75, 76, 77, 78] (by decide +kernel) (by decide +kernel)
set_option maxRecDepth 20000 in
theorem gX10_loosens_X10_loses : GoodIn wsX10_loosens (wsV RX10 221 RX10 yX10_loses wsX10_loses) := goodIn_app (goodIn_of _ (by decide +kernel)) ggX10_loosens_X10_loses
set_option maxRecDepth 20000 in
theorem ggX10_loosens_X10_gets : GoodIn wsX10_loosens wsX10_gets := goodIn_r _ [13, 9, 54, 55, 56, 57, 58, 59, 60, 61, 62, 63, 64, 65, 66, 67, 68, 69, 70, 71, 72, 73, 74, 75, 76, 77, 78] (by decide +kernel) (by decide +kernel)
set_option maxRecDepth 20000 in
theorem gX10_loosens_X10_gets : GoodIn wsX10_loosens (wsV RX10 225 RX10 yX10_gets wsX10_gets) := goodIn_app (goodIn_of _ (by decide +kernel)) ggX10_loosens_X10_gets
set_option maxRecDepth 20000 in
theorem ggX10_loosens_X10_has : GoodIn wsX10_loosens wsX10_has := goodIn_r _ [17, 9, 54, 55, 56, 57, 58, 59, 60, 61, 62, 63, 64, 65, 66, 67, 68, 69, 70, 71, 72, 73, 74, 75, 76, 77, 78] (by decide +kernel) (by decide +kernel)
set_option maxRecDepth 20000 in
theorem gX10_loosens_X10_has : GoodIn wsX10_loosens (wsV RX10 218 RX10 yX10_has wsX10_has) := goodIn_app (goodIn_of _ (by decide +kernel)) ggX10_loosens_X10_has
set_option maxRecDepth 20000 in
theorem ggX10_loosens_X10_implies_h : GoodIn wsX10_loosens [Cond.code yX10_implies cX10_implies 3 (some .int)] := goodIn_r _ [21] (by decide +kernel) (by decide +kernel)
set_option maxRecDepth 20000 in
theorem ggX10_loosens_X10_implies_0 : GoodIn wsX10_loosens wsX10_implies_r1 := goodIn_r _ [22, 23, 24, 7, 25, 26, 3, 1, 2, 27, 28, 29, 30, 31, 32, 33, 34, 35, 36, 37, 38, 39, 40, 41] (by decide +kernel) (by decide +kernel)
set_option maxRecDepth 20000 in
theorem ggX10_loosens_X10_implies_1 : GoodIn wsX10_loosens wsX10_implies_r2 := goodIn_r _ [42, 43, 44, 45, 46, 47, 48, 49, 50, 51, 52, 53] (by decide +kernel) (by decide +kernel)
set_option maxRecDepth 20000 in
theorem ggX10_loosens_X10_implies_2 : GoodIn wsX10_loosens wsX100 := goodIn_r _ [54, 55, 56, 57, 58, 59, 60, 61, 62, 63, 64, 65, 66, 67, 68, 69, 70, 71, 72, 73, 74, 75, 76, 77, 78] (by decide +kernel) (by decide +kernel)
theorem ggX10_loosens_X10_implies : GoodIn wsX10_loosens wsX10_implies := goodIn_app ggX10_loosens_X10_implies_h (goodIn_app (goodIn_app ggX10_loosens_X10_implies_0 ggX10_loosens_X10_implies_1) ggX10_loosens_X10_implies_2)
set_option maxRecDepth 20000 in
theorem gX10_loosens_X10_implies : GoodIn wsX10_loosens (wsV RX10 205 RX10 yX10_implies wsX10_implies) := goodIn_app (goodIn_of _ (by decide +kernel)) ggX10_loosens_X10_implies
theorem dX10_loosens_0 : decode cX10_loosens 0 = .ok (.aload_n 0, 1) := by decide +kernel
theorem dX10_loosens_1 : decode cX10_loosens 1 = .ok (.getfield 41, 3) := by decide +kernel
theorem dX10_loosens_4 : decode cX10_loosens 4 = .ok (.iload_n 2, 1) := by decide +kernel
theorem dX10_loosens_5 : decode cX10_loosens 5 = .ok (.iaload, 1) := by decide +kernel
theorem dX10_loosens_6 : decode cX10_loosens 6 = .ok (.istore_n 3, 1) := by decide +kernel
theorem dX10_loosens_7 : decode cX10_loosens 7 = .ok (.aload_n 0, 1) := by decide +kernel
theorem dX10_loosens_8 : decode cX10_loosens 8 = .ok (.getfield 44, 3) := by decide +kernel
theorem dX10_loosens_11 : decode cX10_loosens 11 = .ok (.iload_n 2, 1) := by decide +kernel
theorem dX10_loosens_12 : decode cX10_loosens 12 = .ok (.iaload, 1) := by decide +kernel
theorem dX10_loosens_13 : decode cX10_loosens 13 = .ok (.istore 4, 2) := by decide +kernel
theorem dX10_loosens_15 : decode cX10_loosens 15 = .ok (.aload_n 0, 1) := by decide +kernel
theorem dX10_loosens_16 : decode cX10_loosens 16 = .ok (.getfield 38, 3) := by decide +kernel
theorem dX10_loosens_19 : decode cX10_loosens 19 = .ok (.iload_n 2, 1) := by decide +kernel
theorem dX10_loosens_20 : decode cX10_loosens 20 = .ok (.iaload, 1) := by decide +kernel
theorem dX10_loosens_21 : decode cX10_loosens 21 = .ok (.bipush 7, 2) := by decide +kernel
theorem dX10_loosens_23 : decode cX10_loosens 23 = .ok (.if_icmp .ne 24, 3) := by decide +kernel
theorem dX10_loosens_26 : decode cX10_loosens 26 = .ok (.aload_n 0, 1) := by decide +kernel
theorem dX10_loosens_27 : decode cX10_loosens 27 = .ok (.iload_n 1, 1) := by decide +kernel
theorem dX10_loosens_28 : decode cX10_loosens 28 = .ok (.iload_n 2, 1) := by decide +kernel
theorem dX10_loosens_29 : decode cX10_loosens 29 = .ok (.invokevirtual 221, 3) := by decide +kernel
theorem dX10_loosens_32 : decode cX10_loosens 32 = .ok (.aload_n 0, 1) := by decide +kernel
theorem dX10_loosens_33 : decode cX10_loosens 33 = .ok (.iload_n 1, 1) := by decide +kernel
theorem dX10_loosens_34 : decode cX10_loosens 34 = .ok (.iload_n 3, 1) := by decide +kernel
theorem dX10_loosens_35 : decode cX10_loosens 35 = .ok (.invokevirtual 225, 3) := by decide +kernel
theorem dX10_loosens_38 : decode cX10_loosens 38 = .ok (.aload_n 0, 1) := by decide +kernel
theorem dX10_loosens_39 : decode cX10_loosens 39 = .ok (.iload_n 1, 1) := by decide +kernel
theorem dX10_loosens_40 : decode cX10_loosens 40 = .ok (.iload 4, 2) := by decide +kernel
theorem dX10_loosens_42 : decode cX10_loosens 42 = .ok (.invokevirtual 225, 3) := by decide +kernel
theorem dX10_loosens_45 : decode cX10_loosens 45 = .ok (.iconst 1, 1) := by decide +kernel
theorem dX10_loosens_46 : decode cX10_loosens 46 = .ok (.ireturn, 1) := by decide +kernel
theorem dX10_loosens_47 : decode cX10_loosens 47 = .ok (.aload_n 0, 1) := by decide +kernel
theorem dX10_loosens_48 : decode cX10_loosens 48 = .ok (.getfield 38, 3) := by decide +kernel
theorem dX10_loosens_51 : decode cX10_loosens 51 = .ok (.iload_n 2, 1) := by decide +kernel
theorem dX10_loosens_52 : decode cX10_loosens 52 = .ok (.iaload, 1) := by decide +kernel
theorem dX10_loosens_53 : decode cX10_loosens 53 = .ok (.bipush 8, 2) := by decide +kernel
theorem dX10_loosens_55 : decode cX10_loosens 55 = .ok (.if_icmp .ne 43, 3) := by decide +kernel
theorem dX10_loosens_58 : decode cX10_loosens 58 = .ok (.aload_n 0, 1) := by decide +kernel
theorem dX10_loosens_59 : decode cX10_loosens 59 = .ok (.iload_n 1, 1) := by decide +kernel
theorem dX10_loosens_60 : decode cX10_loosens 60 = .ok (.iload_n 3, 1) := by decide +kernel
theorem dX10_loosens_61 : decode cX10_loosens 61 = .ok (.invokevirtual 218, 3) := by decide +kernel
theorem dX10_loosens_64 : decode cX10_loosens 64 = .ok (.ifCond .ne 13, 3) := by decide +kernel
theorem dX10_loosens_67 : decode cX10_loosens 67 = .ok (.aload_n 0, 1) := by decide +kernel
theorem dX10_loosens_68 : decode cX10_loosens 68 = .ok (.iload_n 1, 1) := by decide +kernel
theorem dX10_loosens_69 : decode cX10_loosens 69 = .ok (.iload 4, 2) := by decide +kernel
theorem dX10_loosens_71 : decode cX10_loosens 71 = .ok (.invokevirtual 218, 3) := by decide +kernel
theorem dX10_loosens_74 : decode cX10_loosens 74 = .ok (.ifCond .eq 7, 3) := by decide +kernel
theorem dX10_loosens_77 : decode cX10_loosens 77 = .ok (.iconst 1, 1) := by decide +kernel
theorem dX10_loosens_78 : decode cX10_loosens 78 = .ok (.goto 4, 3) := by decide +kernel
theorem dX10_loosens_81 : decode cX10_loosens 81 = .ok (.iconst 0, 1) := by decide +kernel
theorem dX10_loosens_82 : decode cX10_loosens 82 = .ok (.istore 5, 2) := by decide +kernel
theorem dX10_loosens_84 : decode cX10_loosens 84 = .ok (.iload 5, 2) := by decide +kernel
theorem dX10_loosens_86 : decode cX10_loosens 86 = .ok (.ifCond .eq 9, 3) := by decide +kernel
theorem dX10_loosens_89 : decode cX10_loosens 89 = .ok (.aload_n 0, 1) := by decide +kernel
theorem dX10_loosens_90 : decode cX10_loosens 90 = .ok (.iload_n 1, 1) := by decide +kernel
theorem dX10_loosens_91 : decode cX10_loosens 91 = .ok (.iload_n 2, 1) := by decide +kernel
theorem dX10_loosens_92 : decode cX10_loosens 92 = .ok (.invokevirtual 221, 3) := by decide +kernel
theorem dX10_loosens_95 : decode cX10_loosens 95 = .ok (.iload 5, 2) := by decide +kernel
theorem dX10_loosens_97 : decode cX10_loosens 97 = .ok (.ireturn, 1) := by decide +kernel
theorem dX10_loosens_98 : decode cX10_loosens 98 = .ok (.aload_n 0, 1) := by decide +kernel
theorem dX10_loosens_99 : decode cX10_loosens 99 = .ok (.getfield 38, 3) := by decide +kernel
theorem dX10_loosens_102 : decode cX10_loosens 102 = .ok (.iload_n 2, 1) := by decide +kernel
theorem dX10_loosens_103 : decode cX10_loosens 103 = .ok (.iaload, 1) := by decide +kernel
theorem dX10_loosens_104 : decode cX10_loosens 104 = .ok (.bipush 9, 2) := by decide +kernel
theorem dX10_loosens_106 : decode cX10_loosens 106 = .ok (.if_icmp .eq 5, 3) := by decide +kernel
theorem dX10_loosens_109 : decode cX10_loosens 109 = .ok (.iconst 0, 1) := by decide +kernel
theorem dX10_loosens_110 : decode cX10_loosens 110 = .ok (.ireturn, 1) := by decide +kernel
theorem dX10_loosens_111 : decode cX10_loosens 111 = .ok (.aload_n 0, 1) := by decide +kernel
theorem dX10_loosens_112 : decode cX10_loosens 112 = .ok (.iload_n 1, 1) := by decide +kernel
theorem dX10_loosens_113 : decode cX10_loosens 113 = .ok (.iload_n 3, 1) := by decide +kernel
theorem dX10_loosens_114 : decode cX10_loosens 114 = .ok (.invokevirtual 218, 3) := by decide +kernel
theorem dX10_loosens_117 : decode cX10_loosens 117 = .ok (.ifCond .ne 13, 3) := by decide +kernel
theorem dX10_loosens_120 : decode cX10_loosens 120 = .ok (.aload_n 0, 1) := by decide +kernel
theorem dX10_loosens_121 : decode cX10_loosens 121 = .ok (.iload_n 1, 1) := by decide +kernel
theorem dX10_loosens_122 : decode cX10_loosens 122 = .ok (.iload 4, 2) := by decide +kernel
theorem dX10_loosens_124 : decode cX10_loosens 124 = .ok (.invokevirtual 218, 3) := by decide +kernel
theorem dX10_loosens_127 : decode cX10_loosens 127 = .ok (.ifCond .eq 18, 3) := by decide +kernel
theorem dX10_loosens_130 : decode cX10_loosens 130 = .ok (.aload_n 0, 1) := by decide +kernel
theorem dX10_loosens_131 : decode cX10_loosens 131 = .ok (.iload_n 1, 1) := by decide +kernel
theorem dX10_loosens_132 : decode cX10_loosens 132 = .ok (.iload_n 2, 1) := by decide +kernel
theorem dX10_loosens_133 : decode cX10_loosens 133 = .ok (.invokevirtual 221, 3) := by decide +kernel
theorem dX10_loosens_136 : decode cX10_loosens 136 = .ok (.aload_n 0, 1) := by decide +kernel
theorem dX10_loosens_137 : decode cX10_loosens 137 = .ok (.iload_n 1, 1) := by decide +kernel
theorem dX10_loosens_138 : decode cX10_loosens 138 = .ok (.iload 4, 2) := by decide +kernel
theorem dX10_loosens_140 : decode cX10_loosens 140 = .ok (.invokevirtual 225, 3) := by decide +kernel
theorem dX10_loosens_143 : decode cX10_loosens 143 = .ok (.iconst 1, 1) := by decide +kernel
theorem dX10_loosens_144 : decode cX10_loosens 144 = .ok (.ireturn, 1) := by decide +kernel
theorem dX10_loosens_145 : decode cX10_loosens 145 = .ok (.aload_n 0, 1) := by decide +kernel
theorem dX10_loosens_146 : decode cX10_loosens 146 = .ok (.getfield 38, 3) := by decide +kernel
theorem dX10_loosens_149 : decode cX10_loosens 149 = .ok (.iload_n 3, 1) := by decide +kernel
theorem dX10_loosens_150 : decode cX10_loosens 150 = .ok (.iaload, 1) := by decide +kernel
theorem dX10_loosens_151 : decode cX10_loosens 151 = .ok (.bipush 7, 2) := by decide +kernel
theorem dX10_loosens_153 : decode cX10_loosens 153 = .ok (.if_icmp .ne 38, 3) := by decide +kernel
theorem dX10_loosens_156 : decode cX10_loosens 156 = .ok (.aload_n 0, 1) := by decide +kernel
theorem dX10_loosens_157 : decode cX10_loosens 157 = .ok (.iload_n 1, 1) := by decide +kernel
theorem dX10_loosens_158 : decode cX10_loosens 158 = .ok (.iload_n 2, 1) := by decide +kernel
theorem dX10_loosens_159 : decode cX10_loosens 159 = .ok (.invokevirtual 221, 3) := by decide +kernel
theorem dX10_loosens_162 : decode cX10_loosens 162 = .ok (.aload_n 0, 1) := by decide +kernel
theorem dX10_loosens_163 : decode cX10_loosens 163 = .ok (.iload_n 1, 1) := by decide +kernel
theorem dX10_loosens_164 : decode cX10_loosens 164 = .ok (.aload_n 0, 1) := by decide +kernel
theorem dX10_loosens_165 : decode cX10_loosens 165 = .ok (.aload_n 0, 1) := by decide +kernel
theorem dX10_loosens_166 : decode cX10_loosens 166 = .ok (.getfield 41, 3) := by decide +kernel
theorem dX10_loosens_169 : decode cX10_loosens 169 = .ok (.iload_n 3, 1) := by decide +kernel
theorem dX10_loosens_170 : decode cX10_loosens 170 = .ok (.iaload, 1) := by decide +kernel
theorem dX10_loosens_171 : decode cX10_loosens 171 = .ok (.aload_n 0, 1) := by decide +kernel
theorem dX10_loosens_172 : decode cX10_loosens 172 = .ok (.aload_n 0, 1) := by decide +kernel
theorem dX10_loosens_173 : decode cX10_loosens 173 = .ok (.getfield 44, 3) := by decide +kernel
theorem dX10_loosens_176 : decode cX10_loosens 176 = .ok (.iload_n 3, 1) := by decide +kernel
theorem dX10_loosens_177 : decode cX10_loosens 177 = .ok (.iaload, 1) := by decide +kernel
theorem dX10_loosens_178 : decode cX10_loosens 178 = .ok (.iload 4, 2) := by decide +kernel
theorem dX10_loosens_180 : decode cX10_loosens 180 = .ok (.invokevirtual 205, 3) := by decide +kernel
theorem dX10_loosens_183 : decode cX10_loosens 183 = .ok (.invokevirtual 205, 3) := by decide +kernel
theorem dX10_loosens_186 : decode cX10_loosens 186 = .ok (.invokevirtual 225, 3) := by decide +kernel
theorem dX10_loosens_189 : decode cX10_loosens 189 = .ok (.iconst 1, 1) := by decide +kernel
theorem dX10_loosens_190 : decode cX10_loosens 190 = .ok (.ireturn, 1) := by decide +kernel
theorem dX10_loosens_191 : decode cX10_loosens 191 = .ok (.aload_n 0, 1) := by decide +kernel
theorem dX10_loosens_192 : decode cX10_loosens 192 = .ok (.getfield 38, 3) := by decide +kernel
theorem dX10_loosens_195 : decode cX10_loosens 195 = .ok (.iload_n 3, 1) := by decide +kernel
theorem dX10_loosens_196 : decode cX10_loosens 196 = .ok (.iaload, 1) := by decide +kernel
theorem dX10_loosens_197 : decode cX10_loosens 197 = .ok (.bipush 8, 2) := by decide +kernel
theorem dX10_loosens_199 : decode cX10_loosens 199 = .ok (.if_icmp .ne 45, 3) := by decide +kernel
theorem dX10_loosens_202 : decode cX10_loosens 202 = .ok (.aload_n 0, 1) := by decide +kernel
theorem dX10_loosens_203 : decode cX10_loosens 203 = .ok (.iload_n 1, 1) := by decide +kernel
theorem dX10_loosens_204 : decode cX10_loosens 204 = .ok (.iload_n 2, 1) := by decide +kernel
theorem dX10_loosens_205 : decode cX10_loosens 205 = .ok (.invokevirtual 221, 3) := by decide +kernel
theorem dX10_loosens_208 : decode cX10_loosens 208 = .ok (.aload_n 0, 1) := by decide +kernel
theorem dX10_loosens_209 : decode cX10_loosens 209 = .ok (.iload_n 1, 1) := by decide +kernel
theorem dX10_loosens_210 : decode cX10_loosens 210 = .ok (.aload_n 0, 1) := by decide +kernel
theorem dX10_loosens_211 : decode cX10_loosens 211 = .ok (.aload_n 0, 1) := by decide +kernel
theorem dX10_loosens_212 : decode cX10_loosens 212 = .ok (.getfield 41, 3) := by decide +kernel
theorem dX10_loosens_215 : decode cX10_loosens 215 = .ok (.iload_n 3, 1) := by decide +kernel
theorem dX10_loosens_216 : decode cX10_loosens 216 = .ok (.iaload, 1) := by decide +kernel
theorem dX10_loosens_217 : decode cX10_loosens 217 = .ok (.iload 4, 2) := by decide +kernel
theorem dX10_loosens_219 : decode cX10_loosens 219 = .ok (.invokevirtual 205, 3) := by decide +kernel
theorem dX10_loosens_222 : decode cX10_loosens 222 = .ok (.invokevirtual 225, 3) := by decide +kernel
theorem dX10_loosens_225 : decode cX10_loosens 225 = .ok (.aload_n 0, 1) := by decide +kernel
theorem dX10_loosens_226 : decode cX10_loosens 226 = .ok (.iload_n 1, 1) := by decide +kernel
theorem dX10_loosens_227 : decode cX10_loosens 227 = .ok (.aload_n 0, 1) := by decide +kernel
theorem dX10_loosens_228 : decode cX10_loosens 228 = .ok (.aload_n 0, 1) := by decide +kernel
theorem dX10_loosens_229 : decode cX10_loosens 229 = .ok (.getfield 44, 3) := by decide +kernel
theorem dX10_loosens_232 : decode cX10_loosens 232 = .ok (.iload_n 3, 1) := by decide +kernel
theorem dX10_loosens_233 : decode cX10_loosens 233 = .ok (.iaload, 1) := by decide +kernel
theorem dX10_loosens_234 : decode cX10_loosens 234 = .ok (.iload 4, 2) := by decide +kernel
theorem dX10_loosens_236 : decode cX10_loosens 236 = .ok (.invokevirtual 205, 3) := by decide +kernel
theorem dX10_loosens_239 : decode cX10_loosens 239 = .ok (.invokevirtual 225, 3) := by decide +kernel
theorem dX10_loosens_242 : decode cX10_loosens 242 = .ok (.iconst 1, 1) := by decide +kernel
theorem dX10_loosens_243 : decode cX10_loosens 243 = .ok (.ireturn, 1) := by decide +kernel
theorem dX10_loosens_244 : decode cX10_loosens 244 = .ok (.iconst 0, 1) := by decide +kernel
theorem dX10_loosens_245 : decode cX10_loosens 245 = .ok (.ireturn, 1) := by decide +kernel
set_option maxRecDepth 20000 in
theorem ggX10_settles_X10_loses : GoodIn wsX10_settles wsX10_loses := goodIn_r _ [10, 11, 67, 68, 69, 70, 71, 72, 73, 74, 75, 76, 77, 78, 79, 80, 81, 82, 83, 84, 85, 86, 87, 88, 89, 90, 91] (by decide +kernel) (by decide +kernel)
set_option maxRecDepth 20000 in
theorem gX10_settles_X10_loses : GoodIn wsX10_settles (wsV RX10 221 RX10 yX10_loses wsX10_loses) := goodIn_app (goodIn_of _ (by decide +kernel)) ggX10_settles_X10_loses
set_option maxRecDepth 20000 in
theorem ggX10_settles_X10_gets : GoodIn wsX10_settles wsX10_gets := goodIn_r _ [15, 11, 67, 68, 69, 70, 71, 72, 73, 74, 75, 76, 77, 78, 79, 80, 81, 82, 83, 84, 85, 86, 87, 88, 89, 90, 91] (by decide +kernel) (by decide +kernel)
set_option maxRecDepth 20000 in
theorem gX10_settles_X10_gets : GoodIn wsX10_settles (wsV RX10 225 RX10 yX10_gets wsX10_gets) := goodIn_app (goodIn_of _ (by decide +kernel)) ggX10_settles_X10_gets
set_option maxRecDepth 20000 in
theorem ggX10_settles_X10_has : GoodIn wsX10_settles wsX10_has := goodIn_r _ [19, 11, 67, 68, 69, 70, 71, 72, 73, 74, 75, 76, 77, 78, 79, 80, 81, 82, 83, 84, 85, 86, 87, 88, 89, 90, 91] (by decide +kernel) (by decide +kernel)
set_option maxRecDepth 20000 in
theorem gX10_settles_X10_has : GoodIn wsX10_settles (wsV RX10 218 RX10 yX10_has wsX10_has) := goodIn_app (goodIn_of _ (by decide +kernel)) ggX10_settles_X10_has
set_option maxRecDepth 20000 in
theorem ggX10_settles_X10_loosens_h : GoodIn wsX10_settles [Cond.code yX10_loosens cX10_loosens 6 (some .boolean)] := goodIn_r _ [23] (by decide +kernel) (by decide +kernel)
set_option maxRecDepth 20000 in
theorem ggX10_settles_X10_loosens_0 : GoodIn wsX10_settles wsX10_loosens_r1 := goodIn_r _ [3, 4, 1, 6, 7, 8, 9, 10, 11, 12, 13, 14, 15, 16, 17, 18, 19, 24, 25, 26, 27, 28, 29, 30] (by decide +kernel) (by decide +kernel)
set_option maxRecDepth 20000 in
theorem ggX10_settles_X10_loosens_1 : GoodIn wsX10_settles wsX10_loosens_r2 := goodIn_r _ [31, 5, 32, 33, 34, 35, 36, 37, 38, 39, 40, 41, 42, 43, 44, 45, 46, 47, 48, 49, 50, 51, 52, 53] (by decide +kernel) (by decide +kernel)
set_option maxRecDepth 20000 in
theorem ggX10_settles_X10_loosens_2 : GoodIn wsX10_settles wsX10_loosens_r3 := goodIn_r _ [54, 55, 56, 57, 58] (by decide +kernel) (by decide +kernel)
set_option maxRecDepth 20000 in
theorem ggX10_settles_X10_loosens_3 : GoodIn wsX10_settles wsX100 := goodIn_r _ [67, 68, 69, 70, 71, 72, 73, 74, 75, 76, 77, 78, 79, 80, 81, 82, 83, 84, 85, 86, 87, 88, 89, 90, 91] (by decide +kernel) (by decide +kernel)
theorem ggX10_settles_X10_loosens : GoodIn wsX10_settles wsX10_loosens := goodIn_app ggX10_settles_X10_loosens_h (goodIn_app (goodIn_app ggX10_settles_X10_loosens_0 (goodIn_app ggX10_settles_X10_loosens_1 ggX10_settles_X10_loosens_2)) ggX10_settles_X10_loosens_3)
set_option maxRecDepth 20000 in
theorem gX10_settles_X10_loosens : GoodIn wsX10_settles (wsV RX10 228 RX10 yX10_loosens wsX10_loosens) := goodIn_app (goodIn_of _ (by decide +kernel)) ggX10_settles_X10_loosens
set_option maxRecDepth 20000 in
theorem ggX10_settles_X10_refutes : GoodIn wsX10_settles wsX10_refutes := goodIn_r _ [62, 63, 5, 36, 2, 64, 65, 9, 66, 16, 17, 18, 19, 11, 67, 68, 69, 70, 71, 72, 73, 74, 75, 76, 77, 78, 79, 80, 81, 82, 83, 84, 85, 86, 87, 88, 89, 90, 91] (by decide +kernel) (by decide +kernel)
set_option maxRecDepth 20000 in
theorem gX10_settles_X10_refutes : GoodIn wsX10_settles (wsV RX10 231 RX10 yX10_refutes wsX10_refutes) := goodIn_app (goodIn_of _ (by decide +kernel)) ggX10_settles_X10_refutes
theorem dX10_settles_0 : decode cX10_settles 0 = .ok (.iconst 1, 1) := by decide +kernel
theorem dX10_settles_1 : decode cX10_settles 1 = .ok (.istore_n 2, 1) := by decide +kernel
theorem dX10_settles_2 : decode cX10_settles 2 = .ok (.iload_n 2, 1) := by decide +kernel
theorem dX10_settles_3 : decode cX10_settles 3 = .ok (.ifCond .eq 148, 3) := by decide +kernel
theorem dX10_settles_6 : decode cX10_settles 6 = .ok (.iconst 0, 1) := by decide +kernel
theorem dX10_settles_7 : decode cX10_settles 7 = .ok (.istore_n 2, 1) := by decide +kernel
theorem dX10_settles_8 : decode cX10_settles 8 = .ok (.aload_n 0, 1) := by decide +kernel
theorem dX10_settles_9 : decode cX10_settles 9 = .ok (.iload_n 1, 1) := by decide +kernel
theorem dX10_settles_10 : decode cX10_settles 10 = .ok (.iconst 0, 1) := by decide +kernel
theorem dX10_settles_11 : decode cX10_settles 11 = .ok (.invokevirtual 221, 3) := by decide +kernel
theorem dX10_settles_14 : decode cX10_settles 14 = .ok (.aload_n 0, 1) := by decide +kernel
theorem dX10_settles_15 : decode cX10_settles 15 = .ok (.getfield 38, 3) := by decide +kernel
theorem dX10_settles_18 : decode cX10_settles 18 = .ok (.aload_n 0, 1) := by decide +kernel
theorem dX10_settles_19 : decode cX10_settles 19 = .ok (.getfield 54, 3) := by decide +kernel
theorem dX10_settles_22 : decode cX10_settles 22 = .ok (.iload_n 1, 1) := by decide +kernel
theorem dX10_settles_23 : decode cX10_settles 23 = .ok (.iaload, 1) := by decide +kernel
theorem dX10_settles_24 : decode cX10_settles 24 = .ok (.iaload, 1) := by decide +kernel
theorem dX10_settles_25 : decode cX10_settles 25 = .ok (.bipush 9, 2) := by decide +kernel
theorem dX10_settles_27 : decode cX10_settles 27 = .ok (.if_icmp .ne 45, 3) := by decide +kernel
theorem dX10_settles_30 : decode cX10_settles 30 = .ok (.aload_n 0, 1) := by decide +kernel
theorem dX10_settles_31 : decode cX10_settles 31 = .ok (.iload_n 1, 1) := by decide +kernel
theorem dX10_settles_32 : decode cX10_settles 32 = .ok (.aload_n 0, 1) := by decide +kernel
theorem dX10_settles_33 : decode cX10_settles 33 = .ok (.getfield 41, 3) := by decide +kernel
theorem dX10_settles_36 : decode cX10_settles 36 = .ok (.aload_n 0, 1) := by decide +kernel
theorem dX10_settles_37 : decode cX10_settles 37 = .ok (.getfield 54, 3) := by decide +kernel
theorem dX10_settles_40 : decode cX10_settles 40 = .ok (.iload_n 1, 1) := by decide +kernel
theorem dX10_settles_41 : decode cX10_settles 41 = .ok (.iaload, 1) := by decide +kernel
theorem dX10_settles_42 : decode cX10_settles 42 = .ok (.iaload, 1) := by decide +kernel
theorem dX10_settles_43 : decode cX10_settles 43 = .ok (.invokevirtual 225, 3) := by decide +kernel
theorem dX10_settles_46 : decode cX10_settles 46 = .ok (.aload_n 0, 1) := by decide +kernel
theorem dX10_settles_47 : decode cX10_settles 47 = .ok (.getfield 54, 3) := by decide +kernel
theorem dX10_settles_50 : decode cX10_settles 50 = .ok (.iload_n 1, 1) := by decide +kernel
theorem dX10_settles_51 : decode cX10_settles 51 = .ok (.aload_n 0, 1) := by decide +kernel
theorem dX10_settles_52 : decode cX10_settles 52 = .ok (.getfield 44, 3) := by decide +kernel
theorem dX10_settles_55 : decode cX10_settles 55 = .ok (.aload_n 0, 1) := by decide +kernel
theorem dX10_settles_56 : decode cX10_settles 56 = .ok (.getfield 54, 3) := by decide +kernel
theorem dX10_settles_59 : decode cX10_settles 59 = .ok (.iload_n 1, 1) := by decide +kernel
theorem dX10_settles_60 : decode cX10_settles 60 = .ok (.iaload, 1) := by decide +kernel
theorem dX10_settles_61 : decode cX10_settles 61 = .ok (.iaload, 1) := by decide +kernel
theorem dX10_settles_62 : decode cX10_settles 62 = .ok (.iastore, 1) := by decide +kernel
theorem dX10_settles_63 : decode cX10_settles 63 = .ok (.aload_n 0, 1) := by decide +kernel
theorem dX10_settles_64 : decode cX10_settles 64 = .ok (.iload_n 1, 1) := by decide +kernel
theorem dX10_settles_65 : decode cX10_settles 65 = .ok (.iconst 0, 1) := by decide +kernel
theorem dX10_settles_66 : decode cX10_settles 66 = .ok (.invokevirtual 221, 3) := by decide +kernel
theorem dX10_settles_69 : decode cX10_settles 69 = .ok (.goto (-55), 3) := by decide +kernel
theorem dX10_settles_72 : decode cX10_settles 72 = .ok (.aload_n 0, 1) := by decide +kernel
theorem dX10_settles_73 : decode cX10_settles 73 = .ok (.getfield 54, 3) := by decide +kernel
theorem dX10_settles_76 : decode cX10_settles 76 = .ok (.iload_n 1, 1) := by decide +kernel
theorem dX10_settles_77 : decode cX10_settles 77 = .ok (.iaload, 1) := by decide +kernel
theorem dX10_settles_78 : decode cX10_settles 78 = .ok (.ifCond .eq 26, 3) := by decide +kernel
theorem dX10_settles_81 : decode cX10_settles 81 = .ok (.aload_n 0, 1) := by decide +kernel
theorem dX10_settles_82 : decode cX10_settles 82 = .ok (.iload_n 1, 1) := by decide +kernel
theorem dX10_settles_83 : decode cX10_settles 83 = .ok (.iconst 1, 1) := by decide +kernel
theorem dX10_settles_84 : decode cX10_settles 84 = .ok (.invokevirtual 218, 3) := by decide +kernel
theorem dX10_settles_87 : decode cX10_settles 87 = .ok (.ifCond .ne 17, 3) := by decide +kernel
theorem dX10_settles_90 : decode cX10_settles 90 = .ok (.aload_n 0, 1) := by decide +kernel
theorem dX10_settles_91 : decode cX10_settles 91 = .ok (.iload_n 1, 1) := by decide +kernel
theorem dX10_settles_92 : decode cX10_settles 92 = .ok (.aload_n 0, 1) := by decide +kernel
theorem dX10_settles_93 : decode cX10_settles 93 = .ok (.getfield 54, 3) := by decide +kernel
theorem dX10_settles_96 : decode cX10_settles 96 = .ok (.iload_n 1, 1) := by decide +kernel
theorem dX10_settles_97 : decode cX10_settles 97 = .ok (.iaload, 1) := by decide +kernel
theorem dX10_settles_98 : decode cX10_settles 98 = .ok (.invokevirtual 218, 3) := by decide +kernel
theorem dX10_settles_101 : decode cX10_settles 101 = .ok (.ifCond .eq 5, 3) := by decide +kernel
theorem dX10_settles_104 : decode cX10_settles 104 = .ok (.iconst 1, 1) := by decide +kernel
theorem dX10_settles_105 : decode cX10_settles 105 = .ok (.ireturn, 1) := by decide +kernel
theorem dX10_settles_106 : decode cX10_settles 106 = .ok (.iconst 2, 1) := by decide +kernel
theorem dX10_settles_107 : decode cX10_settles 107 = .ok (.istore_n 3, 1) := by decide +kernel
theorem dX10_settles_108 : decode cX10_settles 108 = .ok (.iload_n 3, 1) := by decide +kernel
theorem dX10_settles_109 : decode cX10_settles 109 = .ok (.aload_n 0, 1) := by decide +kernel
theorem dX10_settles_110 : decode cX10_settles 110 = .ok (.getfield 172, 3) := by decide +kernel
theorem dX10_settles_113 : decode cX10_settles 113 = .ok (.if_icmp .ge 35, 3) := by decide +kernel
theorem dX10_settles_116 : decode cX10_settles 116 = .ok (.iload_n 2, 1) := by decide +kernel
theorem dX10_settles_117 : decode cX10_settles 117 = .ok (.aload_n 0, 1) := by decide +kernel
theorem dX10_settles_118 : decode cX10_settles 118 = .ok (.iload_n 1, 1) := by decide +kernel
theorem dX10_settles_119 : decode cX10_settles 119 = .ok (.iload_n 3, 1) := by decide +kernel
theorem dX10_settles_120 : decode cX10_settles 120 = .ok (.invokevirtual 218, 3) := by decide +kernel
theorem dX10_settles_123 : decode cX10_settles 123 = .ok (.ifCond .eq 16, 3) := by decide +kernel
theorem dX10_settles_126 : decode cX10_settles 126 = .ok (.aload_n 0, 1) := by decide +kernel
theorem dX10_settles_127 : decode cX10_settles 127 = .ok (.iload_n 1, 1) := by decide +kernel
theorem dX10_settles_128 : decode cX10_settles 128 = .ok (.iload_n 3, 1) := by decide +kernel
theorem dX10_settles_129 : decode cX10_settles 129 = .ok (.invokevirtual 228, 3) := by decide +kernel
theorem dX10_settles_132 : decode cX10_settles 132 = .ok (.ifCond .eq 7, 3) := by decide +kernel
theorem dX10_settles_135 : decode cX10_settles 135 = .ok (.iconst 1, 1) := by decide +kernel
theorem dX10_settles_136 : decode cX10_settles 136 = .ok (.goto 4, 3) := by decide +kernel
theorem dX10_settles_139 : decode cX10_settles 139 = .ok (.iconst 0, 1) := by decide +kernel
theorem dX10_settles_140 : decode cX10_settles 140 = .ok (.ior, 1) := by decide +kernel
theorem dX10_settles_141 : decode cX10_settles 141 = .ok (.istore_n 2, 1) := by decide +kernel
theorem dX10_settles_142 : decode cX10_settles 142 = .ok (.iinc 3 1, 3) := by decide +kernel
theorem dX10_settles_145 : decode cX10_settles 145 = .ok (.goto (-37), 3) := by decide +kernel
theorem dX10_settles_148 : decode cX10_settles 148 = .ok (.goto (-146), 3) := by decide +kernel
theorem dX10_settles_151 : decode cX10_settles 151 = .ok (.aload_n 0, 1) := by decide +kernel
theorem dX10_settles_152 : decode cX10_settles 152 = .ok (.iload_n 1, 1) := by decide +kernel
theorem dX10_settles_153 : decode cX10_settles 153 = .ok (.invokevirtual 231, 3) := by decide +kernel
theorem dX10_settles_156 : decode cX10_settles 156 = .ok (.istore_n 3, 1) := by decide +kernel
theorem dX10_settles_157 : decode cX10_settles 157 = .ok (.iload_n 3, 1) := by decide +kernel
theorem dX10_settles_158 : decode cX10_settles 158 = .ok (.iconst 2, 1) := by decide +kernel
theorem dX10_settles_159 : decode cX10_settles 159 = .ok (.if_icmp .ne 7, 3) := by decide +kernel
theorem dX10_settles_162 : decode cX10_settles 162 = .ok (.iconst 1, 1) := by decide +kernel
theorem dX10_settles_163 : decode cX10_settles 163 = .ok (.goto 13, 3) := by decide +kernel
theorem dX10_settles_166 : decode cX10_settles 166 = .ok (.iload_n 3, 1) := by decide +kernel
theorem dX10_settles_167 : decode cX10_settles 167 = .ok (.iconst 1, 1) := by decide +kernel
theorem dX10_settles_168 : decode cX10_settles 168 = .ok (.if_icmp .ne 7, 3) := by decide +kernel
theorem dX10_settles_171 : decode cX10_settles 171 = .ok (.iconst 0, 1) := by decide +kernel
theorem dX10_settles_172 : decode cX10_settles 172 = .ok (.goto 4, 3) := by decide +kernel
theorem dX10_settles_175 : decode cX10_settles 175 = .ok (.iconst 2, 1) := by decide +kernel
theorem dX10_settles_176 : decode cX10_settles 176 = .ok (.ireturn, 1) := by decide +kernel
set_option maxRecDepth 20000 in
theorem ggX10_next_X10_has : GoodIn wsX10_next wsX10_has := goodIn_r _ [8, 9, 10, 11, 12, 13, 14, 15, 16, 17, 18, 19, 20, 21, 22, 23, 24, 25, 26, 27, 28, 29, 30, 31, 32, 33, 34] (by decide +kernel) (by decide +kernel)
set_option maxRecDepth 20000 in
theorem gX10_next_X10_has : GoodIn wsX10_next (wsV RX10 218 RX10 yX10_has wsX10_has) := goodIn_app (goodIn_of _ (by decide +kernel)) ggX10_next_X10_has
theorem dX10_next_0 : decode cX10_next 0 = .ok (.iload_n 2, 1) := by decide +kernel
theorem dX10_next_1 : decode cX10_next 1 = .ok (.istore 4, 2) := by decide +kernel
theorem dX10_next_3 : decode cX10_next 3 = .ok (.iload 4, 2) := by decide +kernel
theorem dX10_next_5 : decode cX10_next 5 = .ok (.aload_n 0, 1) := by decide +kernel
theorem dX10_next_6 : decode cX10_next 6 = .ok (.getfield 172, 3) := by decide +kernel
theorem dX10_next_9 : decode cX10_next 9 = .ok (.if_icmp .ge 56, 3) := by decide +kernel
theorem dX10_next_12 : decode cX10_next 12 = .ok (.aload_n 0, 1) := by decide +kernel
theorem dX10_next_13 : decode cX10_next 13 = .ok (.getfield 38, 3) := by decide +kernel
theorem dX10_next_16 : decode cX10_next 16 = .ok (.iload 4, 2) := by decide +kernel
theorem dX10_next_18 : decode cX10_next 18 = .ok (.iaload, 1) := by decide +kernel
theorem dX10_next_19 : decode cX10_next 19 = .ok (.iload_n 3, 1) := by decide +kernel
theorem dX10_next_20 : decode cX10_next 20 = .ok (.if_icmp .ne 39, 3) := by decide +kernel
theorem dX10_next_23 : decode cX10_next 23 = .ok (.aload_n 0, 1) := by decide +kernel
theorem dX10_next_24 : decode cX10_next 24 = .ok (.iload_n 1, 1) := by decide +kernel
theorem dX10_next_25 : decode cX10_next 25 = .ok (.iload 4, 2) := by decide +kernel
theorem dX10_next_27 : decode cX10_next 27 = .ok (.invokevirtual 218, 3) := by decide +kernel
theorem dX10_next_30 : decode cX10_next 30 = .ok (.ifCond .eq 29, 3) := by decide +kernel
theorem dX10_next_33 : decode cX10_next 33 = .ok (.iload_n 3, 1) := by decide +kernel
theorem dX10_next_34 : decode cX10_next 34 = .ok (.bipush 9, 2) := by decide +kernel
theorem dX10_next_36 : decode cX10_next 36 = .ok (.if_icmp .ne 20, 3) := by decide +kernel
theorem dX10_next_39 : decode cX10_next 39 = .ok (.aload_n 0, 1) := by decide +kernel
theorem dX10_next_40 : decode cX10_next 40 = .ok (.getfield 38, 3) := by decide +kernel
theorem dX10_next_43 : decode cX10_next 43 = .ok (.aload_n 0, 1) := by decide +kernel
theorem dX10_next_44 : decode cX10_next 44 = .ok (.getfield 41, 3) := by decide +kernel
theorem dX10_next_47 : decode cX10_next 47 = .ok (.iload 4, 2) := by decide +kernel
theorem dX10_next_49 : decode cX10_next 49 = .ok (.iaload, 1) := by decide +kernel
theorem dX10_next_50 : decode cX10_next 50 = .ok (.iaload, 1) := by decide +kernel
theorem dX10_next_51 : decode cX10_next 51 = .ok (.bipush 9, 2) := by decide +kernel
theorem dX10_next_53 : decode cX10_next 53 = .ok (.if_icmp .ne 6, 3) := by decide +kernel
theorem dX10_next_56 : decode cX10_next 56 = .ok (.iload 4, 2) := by decide +kernel
theorem dX10_next_58 : decode cX10_next 58 = .ok (.ireturn, 1) := by decide +kernel
theorem dX10_next_59 : decode cX10_next 59 = .ok (.iinc 4 1, 3) := by decide +kernel
theorem dX10_next_62 : decode cX10_next 62 = .ok (.goto (-59), 3) := by decide +kernel
theorem dX10_next_65 : decode cX10_next 65 = .ok (.bipush (-5), 2) := by decide +kernel
theorem dX10_next_67 : decode cX10_next 67 = .ok (.ireturn, 1) := by decide +kernel
set_option maxRecDepth 20000 in
theorem ggX10_begins_X10_leadsOn : GoodIn wsX10_begins wsX10_leadsOn := goodIn_r _ [10, 11, 1, 3, 69, 70, 71, 72, 73, 74, 75, 76, 77, 78, 79, 80, 81, 82, 83, 84, 85, 86, 87, 88, 89, 90, 91, 92, 93] (by decide +kernel) (by decide +kernel)
set_option maxRecDepth 20000 in
theorem gX10_begins_X10_leadsOn : GoodIn wsX10_begins (wsV RX10 234 RX10 yX10_leadsOn wsX10_leadsOn) := goodIn_app (goodIn_of _ (by decide +kernel)) ggX10_begins_X10_leadsOn
set_option maxRecDepth 20000 in
theorem ggX10_begins_X10_next : GoodIn wsX10_begins wsX10_next := goodIn_r _ [15, 16, 2, 4, 17, 18, 19, 9, 20, 11, 69, 70, 71, 72, 73, 74, 75, 76, 77, 78, 79, 80, 81, 82, 83, 84, 85, 86, 87, 88, 89, 90, 91, 92, 93] (by decide +kernel) (by decide +kernel)
set_option maxRecDepth 20000 in
theorem gX10_begins_X10_next : GoodIn wsX10_begins (wsV RX10 237 RX10 yX10_next wsX10_next) := goodIn_app (goodIn_of _ (by decide +kernel)) ggX10_begins_X10_next
set_option maxRecDepth 20000 in
theorem ggX10_begins_X10_loses : GoodIn wsX10_begins wsX10_loses := goodIn_r _ [24, 11, 69, 70, 71, 72, 73, 74, 75, 76, 77, 78, 79, 80, 81, 82, 83, 84, 85, 86, 87, 88, 89, 90, 91, 92, 93] (by decide +kernel) (by decide +kernel)
set_option maxRecDepth 20000 in
theorem gX10_begins_X10_loses : GoodIn wsX10_begins (wsV RX10 221 RX10 yX10_loses wsX10_loses) := goodIn_app (goodIn_of _ (by decide +kernel)) ggX10_begins_X10_loses
set_option maxRecDepth 20000 in
theorem ggX10_begins_X10_gets : GoodIn wsX10_begins wsX10_gets := goodIn_r _ [28, 11, 69, 70, 71, 72, 73, 74, 75, 76, 77, 78, 79, 80, 81, 82, 83, 84, 85, 86, 87, 88, 89, 90, 91, 92, 93] (by decide +kernel) (by decide +kernel)
set_option maxRecDepth 20000 in
theorem gX10_begins_X10_gets : GoodIn wsX10_begins (wsV RX10 225 RX10 yX10_gets wsX10_gets) := goodIn_app (goodIn_of _ (by decide +kernel)) ggX10_begins_X10_gets
set_option maxRecDepth 20000 in
theorem ggX10_begins_X10_tries_h : GoodIn wsX10_begins [Cond.code yX10_tries cX10_tries 5 (some .int)] := goodIn_r _ [32] (by decide +kernel) (by decide +kernel)
set_option maxRecDepth 20000 in
theorem ggX10_begins_X10_tries_0 : GoodIn wsX10_begins wsX10_tries_r1 := goodIn_r _ [1, 5, 3, 4, 33, 6, 7, 8, 9, 10, 11, 12, 13, 14, 15, 16, 2, 17, 18, 19, 20, 21, 22, 23] (by decide +kernel) (by decide +kernel)
set_option maxRecDepth 20000 in
theorem ggX10_begins_X10_tries_1 : GoodIn wsX10_begins wsX10_tries_r2 := goodIn_r _ [24, 25, 26, 27, 28, 34, 35, 36, 37, 38, 39, 40, 41, 42, 43, 44, 45, 46, 47, 48, 49, 50, 51, 52] (by decide +kernel) (by decide +kernel)
set_option maxRecDepth 20000 in
theorem ggX10_begins_X10_tries_2 : GoodIn wsX10_begins wsX10_tries_r3 := goodIn_r _ [53, 54, 55, 56, 57, 58, 59, 60, 61, 62, 63, 64, 65, 66, 67, 68] (by decide +kernel) (by decide +kernel)
set_option maxRecDepth 20000 in
theorem ggX10_begins_X10_tries_3 : GoodIn wsX10_begins wsX100 := goodIn_r _ [69, 70, 71, 72, 73, 74, 75, 76, 77, 78, 79, 80, 81, 82, 83, 84, 85, 86, 87, 88, 89, 90, 91, 92, 93] (by decide +kernel) (by decide +kernel)
theorem ggX10_begins_X10_tries : GoodIn wsX10_begins wsX10_tries := goodIn_app ggX10_begins_X10_tries_h (goodIn_app (goodIn_app ggX10_begins_X10_tries_0 (goodIn_app ggX10_begins_X10_tries_1 ggX10_begins_X10_tries_2)) ggX10_begins_X10_tries_3)
set_option maxRecDepth 20000 in
theorem gX10_begins_X10_tries : GoodIn wsX10_begins (wsV RX10 240 RX10 yX10_tries wsX10_tries) := goodIn_app (goodIn_of _ (by decide +kernel)) ggX10_begins_X10_tries
theorem dX10_begins_0 : decode cX10_begins 0 = .ok (.aload_n 0, 1) := by decide +kernel
theorem dX10_begins_1 : decode cX10_begins 1 = .ok (.getfield 54, 3) := by decide +kernel
theorem dX10_begins_4 : decode cX10_begins 4 = .ok (.iload_n 1, 1) := by decide +kernel
theorem dX10_begins_5 : decode cX10_begins 5 = .ok (.iaload, 1) := by decide +kernel
theorem dX10_begins_6 : decode cX10_begins 6 = .ok (.istore_n 2, 1) := by decide +kernel
theorem dX10_begins_7 : decode cX10_begins 7 = .ok (.aload_n 0, 1) := by decide +kernel
theorem dX10_begins_8 : decode cX10_begins 8 = .ok (.getfield 38, 3) := by decide +kernel
theorem dX10_begins_11 : decode cX10_begins 11 = .ok (.iload_n 2, 1) := by decide +kernel
theorem dX10_begins_12 : decode cX10_begins 12 = .ok (.iaload, 1) := by decide +kernel
theorem dX10_begins_13 : decode cX10_begins 13 = .ok (.bipush 7, 2) := by decide +kernel
theorem dX10_begins_15 : decode cX10_begins 15 = .ok (.if_icmp .ne 23, 3) := by decide +kernel
theorem dX10_begins_18 : decode cX10_begins 18 = .ok (.aload_n 0, 1) := by decide +kernel
theorem dX10_begins_19 : decode cX10_begins 19 = .ok (.getfield 57, 3) := by decide +kernel
theorem dX10_begins_22 : decode cX10_begins 22 = .ok (.iload_n 1, 1) := by decide +kernel
theorem dX10_begins_23 : decode cX10_begins 23 = .ok (.iconst 1, 1) := by decide +kernel
theorem dX10_begins_24 : decode cX10_begins 24 = .ok (.iastore, 1) := by decide +kernel
theorem dX10_begins_25 : decode cX10_begins 25 = .ok (.aload_n 0, 1) := by decide +kernel
theorem dX10_begins_26 : decode cX10_begins 26 = .ok (.iload_n 1, 1) := by decide +kernel
theorem dX10_begins_27 : decode cX10_begins 27 = .ok (.aload_n 0, 1) := by decide +kernel
theorem dX10_begins_28 : decode cX10_begins 28 = .ok (.getfield 41, 3) := by decide +kernel
theorem dX10_begins_31 : decode cX10_begins 31 = .ok (.iload_n 2, 1) := by decide +kernel
theorem dX10_begins_32 : decode cX10_begins 32 = .ok (.iaload, 1) := by decide +kernel
theorem dX10_begins_33 : decode cX10_begins 33 = .ok (.invokevirtual 234, 3) := by decide +kernel
theorem dX10_begins_36 : decode cX10_begins 36 = .ok (.iconst 2, 1) := by decide +kernel
theorem dX10_begins_37 : decode cX10_begins 37 = .ok (.ireturn, 1) := by decide +kernel
theorem dX10_begins_38 : decode cX10_begins 38 = .ok (.aload_n 0, 1) := by decide +kernel
theorem dX10_begins_39 : decode cX10_begins 39 = .ok (.iload_n 1, 1) := by decide +kernel
theorem dX10_begins_40 : decode cX10_begins 40 = .ok (.iconst 2, 1) := by decide +kernel
theorem dX10_begins_41 : decode cX10_begins 41 = .ok (.bipush 8, 2) := by decide +kernel
theorem dX10_begins_43 : decode cX10_begins 43 = .ok (.invokevirtual 237, 3) := by decide +kernel
theorem dX10_begins_46 : decode cX10_begins 46 = .ok (.istore_n 3, 1) := by decide +kernel
theorem dX10_begins_47 : decode cX10_begins 47 = .ok (.iload_n 3, 1) := by decide +kernel
theorem dX10_begins_48 : decode cX10_begins 48 = .ok (.bipush (-5), 2) := by decide +kernel
theorem dX10_begins_50 : decode cX10_begins 50 = .ok (.if_icmp .eq 46, 3) := by decide +kernel
theorem dX10_begins_53 : decode cX10_begins 53 = .ok (.aload_n 0, 1) := by decide +kernel
theorem dX10_begins_54 : decode cX10_begins 54 = .ok (.getfield 57, 3) := by decide +kernel
theorem dX10_begins_57 : decode cX10_begins 57 = .ok (.iload_n 1, 1) := by decide +kernel
theorem dX10_begins_58 : decode cX10_begins 58 = .ok (.iconst 2, 1) := by decide +kernel
theorem dX10_begins_59 : decode cX10_begins 59 = .ok (.iastore, 1) := by decide +kernel
theorem dX10_begins_60 : decode cX10_begins 60 = .ok (.aload_n 0, 1) := by decide +kernel
theorem dX10_begins_61 : decode cX10_begins 61 = .ok (.getfield 60, 3) := by decide +kernel
theorem dX10_begins_64 : decode cX10_begins 64 = .ok (.iload_n 1, 1) := by decide +kernel
theorem dX10_begins_65 : decode cX10_begins 65 = .ok (.iload_n 3, 1) := by decide +kernel
theorem dX10_begins_66 : decode cX10_begins 66 = .ok (.iastore, 1) := by decide +kernel
theorem dX10_begins_67 : decode cX10_begins 67 = .ok (.aload_n 0, 1) := by decide +kernel
theorem dX10_begins_68 : decode cX10_begins 68 = .ok (.iload_n 1, 1) := by decide +kernel
theorem dX10_begins_69 : decode cX10_begins 69 = .ok (.iload_n 2, 1) := by decide +kernel
theorem dX10_begins_70 : decode cX10_begins 70 = .ok (.invokevirtual 234, 3) := by decide +kernel
theorem dX10_begins_73 : decode cX10_begins 73 = .ok (.aload_n 0, 1) := by decide +kernel
theorem dX10_begins_74 : decode cX10_begins 74 = .ok (.iload_n 1, 1) := by decide +kernel
theorem dX10_begins_75 : decode cX10_begins 75 = .ok (.iconst 1, 1) := by decide +kernel
theorem dX10_begins_76 : decode cX10_begins 76 = .ok (.iadd, 1) := by decide +kernel
theorem dX10_begins_77 : decode cX10_begins 77 = .ok (.iload_n 3, 1) := by decide +kernel
theorem dX10_begins_78 : decode cX10_begins 78 = .ok (.invokevirtual 221, 3) := by decide +kernel
theorem dX10_begins_81 : decode cX10_begins 81 = .ok (.aload_n 0, 1) := by decide +kernel
theorem dX10_begins_82 : decode cX10_begins 82 = .ok (.iload_n 1, 1) := by decide +kernel
theorem dX10_begins_83 : decode cX10_begins 83 = .ok (.iconst 1, 1) := by decide +kernel
theorem dX10_begins_84 : decode cX10_begins 84 = .ok (.iadd, 1) := by decide +kernel
theorem dX10_begins_85 : decode cX10_begins 85 = .ok (.aload_n 0, 1) := by decide +kernel
theorem dX10_begins_86 : decode cX10_begins 86 = .ok (.getfield 41, 3) := by decide +kernel
theorem dX10_begins_89 : decode cX10_begins 89 = .ok (.iload_n 3, 1) := by decide +kernel
theorem dX10_begins_90 : decode cX10_begins 90 = .ok (.iaload, 1) := by decide +kernel
theorem dX10_begins_91 : decode cX10_begins 91 = .ok (.invokevirtual 225, 3) := by decide +kernel
theorem dX10_begins_94 : decode cX10_begins 94 = .ok (.iconst 2, 1) := by decide +kernel
theorem dX10_begins_95 : decode cX10_begins 95 = .ok (.ireturn, 1) := by decide +kernel
theorem dX10_begins_96 : decode cX10_begins 96 = .ok (.aload_n 0, 1) := by decide +kernel
theorem dX10_begins_97 : decode cX10_begins 97 = .ok (.getfield 60, 3) := by decide +kernel
theorem dX10_begins_100 : decode cX10_begins 100 = .ok (.iload_n 1, 1) := by decide +kernel
theorem dX10_begins_101 : decode cX10_begins 101 = .ok (.aload_n 0, 1) := by decide +kernel
theorem dX10_begins_102 : decode cX10_begins 102 = .ok (.getfield 38, 3) := by decide +kernel
theorem dX10_begins_105 : decode cX10_begins 105 = .ok (.iload_n 2, 1) := by decide +kernel
theorem dX10_begins_106 : decode cX10_begins 106 = .ok (.iaload, 1) := by decide +kernel
theorem dX10_begins_107 : decode cX10_begins 107 = .ok (.bipush 8, 2) := by decide +kernel
theorem dX10_begins_109 : decode cX10_begins 109 = .ok (.if_icmp .ne 8, 3) := by decide +kernel
theorem dX10_begins_112 : decode cX10_begins 112 = .ok (.bipush (-2), 2) := by decide +kernel
theorem dX10_begins_114 : decode cX10_begins 114 = .ok (.goto 4, 3) := by decide +kernel
theorem dX10_begins_117 : decode cX10_begins 117 = .ok (.iconst 0, 1) := by decide +kernel
theorem dX10_begins_118 : decode cX10_begins 118 = .ok (.iastore, 1) := by decide +kernel
theorem dX10_begins_119 : decode cX10_begins 119 = .ok (.aload_n 0, 1) := by decide +kernel
theorem dX10_begins_120 : decode cX10_begins 120 = .ok (.iload_n 1, 1) := by decide +kernel
theorem dX10_begins_121 : decode cX10_begins 121 = .ok (.invokevirtual 240, 3) := by decide +kernel
theorem dX10_begins_124 : decode cX10_begins 124 = .ok (.ireturn, 1) := by decide +kernel
set_option maxRecDepth 20000 in
theorem ggX10_tries_X10_leadsOn : GoodIn wsX10_tries wsX10_leadsOn := goodIn_r _ [10, 11, 1, 3, 65, 66, 67, 68, 69, 70, 71, 72, 73, 74, 75, 76, 77, 78, 79, 80, 81, 82, 83, 84, 85, 86, 87, 88, 89] (by decide +kernel) (by decide +kernel)
set_option maxRecDepth 20000 in
theorem gX10_tries_X10_leadsOn : GoodIn wsX10_tries (wsV RX10 234 RX10 yX10_leadsOn wsX10_leadsOn) := goodIn_app (goodIn_of _ (by decide +kernel)) ggX10_tries_X10_leadsOn
set_option maxRecDepth 20000 in
theorem ggX10_tries_X10_next : GoodIn wsX10_tries wsX10_next := goodIn_r _ [15, 16, 17, 4, 18, 19, 20, 9, 21, 11, 65, 66, 67, 68, 69, 70, 71, 72, 73, 74, 75, 76, 77, 78, 79, 80, 81, 82, 83, 84, 85, 86, 87, 88, 89] (by decide +kernel) (by decide +kernel)
set_option maxRecDepth 20000 in
theorem gX10_tries_X10_next : GoodIn wsX10_tries (wsV RX10 237 RX10 yX10_next wsX10_next) := goodIn_app (goodIn_of _ (by decide +kernel)) ggX10_tries_X10_next
set_option maxRecDepth 20000 in
theorem ggX10_tries_X10_loses : GoodIn wsX10_tries wsX10_loses := goodIn_r _ [25, 11, 65, 66, 67, 68, 69, 70, 71, 72, 73, 74, 75, 76, 77, 78, 79, 80, 81, 82, 83, 84, 85, 86, 87, 88, 89] (by decide +kernel) (by decide +kernel)
set_option maxRecDepth 20000 in
theorem gX10_tries_X10_loses : GoodIn wsX10_tries (wsV RX10 221 RX10 yX10_loses wsX10_loses) := goodIn_app (goodIn_of _ (by decide +kernel)) ggX10_tries_X10_loses
set_option maxRecDepth 20000 in
theorem ggX10_tries_X10_gets : GoodIn wsX10_tries wsX10_gets := goodIn_r _ [29, 11, 65, 66, 67, 68, 69, 70, 71, 72, 73, 74, 75, 76, 77, 78, 79, 80, 81, 82, 83, 84, 85, 86, 87, 88, 89] (by decide +kernel) (by decide +kernel)
set_option maxRecDepth 20000 in
theorem gX10_tries_X10_gets : GoodIn wsX10_tries (wsV RX10 225 RX10 yX10_gets wsX10_gets) := goodIn_app (goodIn_of _ (by decide +kernel)) ggX10_tries_X10_gets
set_option maxRecDepth 20000 in
theorem ggX10_tries_X10_implies_h : GoodIn wsX10_tries [Cond.code yX10_implies cX10_implies 3 (some .int)] := goodIn_r _ [33] (by decide +kernel) (by decide +kernel)
set_option maxRecDepth 20000 in
theorem ggX10_tries_X10_implies_0 : GoodIn wsX10_tries wsX10_implies_r1 := goodIn_r _ [34, 35, 36, 9, 37, 16, 17, 4, 5, 38, 39, 40, 41, 42, 43, 44, 45, 46, 47, 48, 49, 50, 51, 52] (by decide +kernel) (by decide +kernel)
set_option maxRecDepth 20000 in
theorem ggX10_tries_X10_implies_1 : GoodIn wsX10_tries wsX10_implies_r2 := goodIn_r _ [53, 54, 55, 56, 57, 58, 59, 60, 61, 62, 63, 64] (by decide +kernel) (by decide +kernel)
set_option maxRecDepth 20000 in
theorem ggX10_tries_X10_implies_2 : GoodIn wsX10_tries wsX100 := goodIn_r _ [65, 66, 67, 68, 69, 70, 71, 72, 73, 74, 75, 76, 77, 78, 79, 80, 81, 82, 83, 84, 85, 86, 87, 88, 89] (by decide +kernel) (by decide +kernel)
theorem ggX10_tries_X10_implies : GoodIn wsX10_tries wsX10_implies := goodIn_app ggX10_tries_X10_implies_h (goodIn_app (goodIn_app ggX10_tries_X10_implies_0 ggX10_tries_X10_implies_1) ggX10_tries_X10_implies_2)
set_option maxRecDepth 20000 in
theorem gX10_tries_X10_implies : GoodIn wsX10_tries (wsV RX10 205 RX10 yX10_implies wsX10_implies) := goodIn_app (goodIn_of _ (by decide +kernel)) ggX10_tries_X10_implies
theorem dX10_tries_0 : decode cX10_tries 0 = .ok (.aload_n 0, 1) := by decide +kernel
theorem dX10_tries_1 : decode cX10_tries 1 = .ok (.getfield 54, 3) := by decide +kernel
theorem dX10_tries_4 : decode cX10_tries 4 = .ok (.iload_n 1, 1) := by decide +kernel
theorem dX10_tries_5 : decode cX10_tries 5 = .ok (.iaload, 1) := by decide +kernel
theorem dX10_tries_6 : decode cX10_tries 6 = .ok (.istore_n 2, 1) := by decide +kernel
theorem dX10_tries_7 : decode cX10_tries 7 = .ok (.aload_n 0, 1) := by decide +kernel
theorem dX10_tries_8 : decode cX10_tries 8 = .ok (.getfield 60, 3) := by decide +kernel
theorem dX10_tries_11 : decode cX10_tries 11 = .ok (.iload_n 1, 1) := by decide +kernel
theorem dX10_tries_12 : decode cX10_tries 12 = .ok (.iaload, 1) := by decide +kernel
theorem dX10_tries_13 : decode cX10_tries 13 = .ok (.ifCond .ge 53, 3) := by decide +kernel
theorem dX10_tries_16 : decode cX10_tries 16 = .ok (.aload_n 0, 1) := by decide +kernel
theorem dX10_tries_17 : decode cX10_tries 17 = .ok (.getfield 57, 3) := by decide +kernel
theorem dX10_tries_20 : decode cX10_tries 20 = .ok (.iload_n 1, 1) := by decide +kernel
theorem dX10_tries_21 : decode cX10_tries 21 = .ok (.iconst 3, 1) := by decide +kernel
theorem dX10_tries_22 : decode cX10_tries 22 = .ok (.iastore, 1) := by decide +kernel
theorem dX10_tries_23 : decode cX10_tries 23 = .ok (.aload_n 0, 1) := by decide +kernel
theorem dX10_tries_24 : decode cX10_tries 24 = .ok (.iload_n 1, 1) := by decide +kernel
theorem dX10_tries_25 : decode cX10_tries 25 = .ok (.aload_n 0, 1) := by decide +kernel
theorem dX10_tries_26 : decode cX10_tries 26 = .ok (.getfield 60, 3) := by decide +kernel
theorem dX10_tries_29 : decode cX10_tries 29 = .ok (.iload_n 1, 1) := by decide +kernel
theorem dX10_tries_30 : decode cX10_tries 30 = .ok (.iaload, 1) := by decide +kernel
theorem dX10_tries_31 : decode cX10_tries 31 = .ok (.bipush (-2), 2) := by decide +kernel
theorem dX10_tries_33 : decode cX10_tries 33 = .ok (.if_icmp .ne 12, 3) := by decide +kernel
theorem dX10_tries_36 : decode cX10_tries 36 = .ok (.aload_n 0, 1) := by decide +kernel
theorem dX10_tries_37 : decode cX10_tries 37 = .ok (.getfield 41, 3) := by decide +kernel
theorem dX10_tries_40 : decode cX10_tries 40 = .ok (.iload_n 2, 1) := by decide +kernel
theorem dX10_tries_41 : decode cX10_tries 41 = .ok (.iaload, 1) := by decide +kernel
theorem dX10_tries_42 : decode cX10_tries 42 = .ok (.goto 9, 3) := by decide +kernel
theorem dX10_tries_45 : decode cX10_tries 45 = .ok (.aload_n 0, 1) := by decide +kernel
theorem dX10_tries_46 : decode cX10_tries 46 = .ok (.getfield 44, 3) := by decide +kernel
theorem dX10_tries_49 : decode cX10_tries 49 = .ok (.iload_n 2, 1) := by decide +kernel
theorem dX10_tries_50 : decode cX10_tries 50 = .ok (.iaload, 1) := by decide +kernel
theorem dX10_tries_51 : decode cX10_tries 51 = .ok (.invokevirtual 234, 3) := by decide +kernel
theorem dX10_tries_54 : decode cX10_tries 54 = .ok (.aload_n 0, 1) := by decide +kernel
theorem dX10_tries_55 : decode cX10_tries 55 = .ok (.getfield 60, 3) := by decide +kernel
theorem dX10_tries_58 : decode cX10_tries 58 = .ok (.iload_n 1, 1) := by decide +kernel
theorem dX10_tries_59 : decode cX10_tries 59 = .ok (.dup2, 1) := by decide +kernel
theorem dX10_tries_60 : decode cX10_tries 60 = .ok (.iaload, 1) := by decide +kernel
theorem dX10_tries_61 : decode cX10_tries 61 = .ok (.iconst 1, 1) := by decide +kernel
theorem dX10_tries_62 : decode cX10_tries 62 = .ok (.iadd, 1) := by decide +kernel
theorem dX10_tries_63 : decode cX10_tries 63 = .ok (.iastore, 1) := by decide +kernel
theorem dX10_tries_64 : decode cX10_tries 64 = .ok (.iconst 2, 1) := by decide +kernel
theorem dX10_tries_65 : decode cX10_tries 65 = .ok (.ireturn, 1) := by decide +kernel
theorem dX10_tries_66 : decode cX10_tries 66 = .ok (.aload_n 0, 1) := by decide +kernel
theorem dX10_tries_67 : decode cX10_tries 67 = .ok (.iload_n 1, 1) := by decide +kernel
theorem dX10_tries_68 : decode cX10_tries 68 = .ok (.aload_n 0, 1) := by decide +kernel
theorem dX10_tries_69 : decode cX10_tries 69 = .ok (.getfield 60, 3) := by decide +kernel
theorem dX10_tries_72 : decode cX10_tries 72 = .ok (.iload_n 1, 1) := by decide +kernel
theorem dX10_tries_73 : decode cX10_tries 73 = .ok (.iaload, 1) := by decide +kernel
theorem dX10_tries_74 : decode cX10_tries 74 = .ok (.bipush 9, 2) := by decide +kernel
theorem dX10_tries_76 : decode cX10_tries 76 = .ok (.invokevirtual 237, 3) := by decide +kernel
theorem dX10_tries_79 : decode cX10_tries 79 = .ok (.istore_n 3, 1) := by decide +kernel
theorem dX10_tries_80 : decode cX10_tries 80 = .ok (.iload_n 3, 1) := by decide +kernel
theorem dX10_tries_81 : decode cX10_tries 81 = .ok (.bipush (-5), 2) := by decide +kernel
theorem dX10_tries_83 : decode cX10_tries 83 = .ok (.if_icmp .ne 5, 3) := by decide +kernel
theorem dX10_tries_86 : decode cX10_tries 86 = .ok (.iconst 0, 1) := by decide +kernel
theorem dX10_tries_87 : decode cX10_tries 87 = .ok (.ireturn, 1) := by decide +kernel
theorem dX10_tries_88 : decode cX10_tries 88 = .ok (.aload_n 0, 1) := by decide +kernel
theorem dX10_tries_89 : decode cX10_tries 89 = .ok (.getfield 57, 3) := by decide +kernel
theorem dX10_tries_92 : decode cX10_tries 92 = .ok (.iload_n 1, 1) := by decide +kernel
theorem dX10_tries_93 : decode cX10_tries 93 = .ok (.iconst 4, 1) := by decide +kernel
theorem dX10_tries_94 : decode cX10_tries 94 = .ok (.iastore, 1) := by decide +kernel
