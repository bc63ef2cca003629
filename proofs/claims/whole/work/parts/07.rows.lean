theorem dX10_madeWord_138 : decode cX10_madeWord 138 = .ok (.iadd, 1) := by decide +kernel
theorem dX10_madeWord_139 : decode cX10_madeWord 139 = .ok (.iload 8, 2) := by decide +kernel
theorem dX10_madeWord_141 : decode cX10_madeWord 141 = .ok (.iadd, 1) := by decide +kernel
theorem dX10_madeWord_142 : decode cX10_madeWord 142 = .ok (.iaload, 1) := by decide +kernel
theorem dX10_madeWord_143 : decode cX10_madeWord 143 = .ok (.aload_n 0, 1) := by decide +kernel
theorem dX10_madeWord_144 : decode cX10_madeWord 144 = .ok (.getfield 48, 3) := by decide +kernel
theorem dX10_madeWord_147 : decode cX10_madeWord 147 = .ok (.bipush 91, 2) := by decide +kernel
theorem dX10_madeWord_149 : decode cX10_madeWord 149 = .ok (.iload_n 1, 1) := by decide +kernel
theorem dX10_madeWord_150 : decode cX10_madeWord 150 = .ok (.imul, 1) := by decide +kernel
theorem dX10_madeWord_151 : decode cX10_madeWord 151 = .ok (.iload 4, 2) := by decide +kernel
theorem dX10_madeWord_153 : decode cX10_madeWord 153 = .ok (.iadd, 1) := by decide +kernel
theorem dX10_madeWord_154 : decode cX10_madeWord 154 = .ok (.iconst 2, 1) := by decide +kernel
theorem dX10_madeWord_155 : decode cX10_madeWord 155 = .ok (.iload 8, 2) := by decide +kernel
theorem dX10_madeWord_157 : decode cX10_madeWord 157 = .ok (.imul, 1) := by decide +kernel
theorem dX10_madeWord_158 : decode cX10_madeWord 158 = .ok (.iadd, 1) := by decide +kernel
theorem dX10_madeWord_159 : decode cX10_madeWord 159 = .ok (.iaload, 1) := by decide +kernel
theorem dX10_madeWord_160 : decode cX10_madeWord 160 = .ok (.iand, 1) := by decide +kernel
theorem dX10_madeWord_161 : decode cX10_madeWord 161 = .ok (.iand, 1) := by decide +kernel
theorem dX10_madeWord_162 : decode cX10_madeWord 162 = .ok (.istore 7, 2) := by decide +kernel
theorem dX10_madeWord_164 : decode cX10_madeWord 164 = .ok (.goto 33, 3) := by decide +kernel
theorem dX10_madeWord_167 : decode cX10_madeWord 167 = .ok (.iload_n 2, 1) := by decide +kernel
theorem dX10_madeWord_168 : decode cX10_madeWord 168 = .ok (.iconst 3, 1) := by decide +kernel
theorem dX10_madeWord_169 : decode cX10_madeWord 169 = .ok (.if_icmp .ge 28, 3) := by decide +kernel
theorem dX10_madeWord_172 : decode cX10_madeWord 172 = .ok (.iload_n 3, 1) := by decide +kernel
theorem dX10_madeWord_173 : decode cX10_madeWord 173 = .ok (.iload_n 2, 1) := by decide +kernel
theorem dX10_madeWord_174 : decode cX10_madeWord 174 = .ok (.if_icmp .ge 23, 3) := by decide +kernel
theorem dX10_madeWord_177 : decode cX10_madeWord 177 = .ok (.iload 7, 2) := by decide +kernel
theorem dX10_madeWord_179 : decode cX10_madeWord 179 = .ok (.aload_n 0, 1) := by decide +kernel
theorem dX10_madeWord_180 : decode cX10_madeWord 180 = .ok (.getfield 48, 3) := by decide +kernel
theorem dX10_madeWord_183 : decode cX10_madeWord 183 = .ok (.bipush 91, 2) := by decide +kernel
theorem dX10_madeWord_185 : decode cX10_madeWord 185 = .ok (.iload_n 1, 1) := by decide +kernel
theorem dX10_madeWord_186 : decode cX10_madeWord 186 = .ok (.imul, 1) := by decide +kernel
theorem dX10_madeWord_187 : decode cX10_madeWord 187 = .ok (.iload 4, 2) := by decide +kernel
theorem dX10_madeWord_189 : decode cX10_madeWord 189 = .ok (.iadd, 1) := by decide +kernel
theorem dX10_madeWord_190 : decode cX10_madeWord 190 = .ok (.iload 8, 2) := by decide +kernel
theorem dX10_madeWord_192 : decode cX10_madeWord 192 = .ok (.iadd, 1) := by decide +kernel
theorem dX10_madeWord_193 : decode cX10_madeWord 193 = .ok (.iaload, 1) := by decide +kernel
theorem dX10_madeWord_194 : decode cX10_madeWord 194 = .ok (.iand, 1) := by decide +kernel
theorem dX10_madeWord_195 : decode cX10_madeWord 195 = .ok (.istore 7, 2) := by decide +kernel
theorem dX10_madeWord_197 : decode cX10_madeWord 197 = .ok (.iload 7, 2) := by decide +kernel
theorem dX10_madeWord_199 : decode cX10_madeWord 199 = .ok (.ireturn, 1) := by decide +kernel
set_option maxRecDepth 20000 in
theorem ggX10_partOf_X10_part : GoodIn wsX10_partOf wsX10_part := goodIn_r _ [7, 8, 9, 10, 11, 12, 13, 14, 6, 15, 16, 17, 18, 19, 20, 21, 22, 23, 24, 25, 26, 27, 28, 29, 30, 31, 32, 33, 34, 35, 36, 37, 38, 51, 52, 53, 54, 55, 56, 57, 58, 59, 60, 61, 62, 63, 64, 65, 66, 67, 68, 69, 70, 71, 72, 73, 74, 75] (by decide +kernel) (by decide +kernel)
set_option maxRecDepth 20000 in
theorem gX10_partOf_X10_part : GoodIn wsX10_partOf (wsV RX10 175 RX10 yX10_part wsX10_part) := goodIn_app (goodIn_of _ (by decide +kernel)) ggX10_partOf_X10_part
set_option maxRecDepth 20000 in
theorem ggX10_partOf_X10_implies : GoodIn wsX10_partOf wsX10_implies := goodIn_r _ [42, 3, 4, 5, 6, 7, 8, 9, 10, 11, 12, 13, 14, 15, 16, 17, 18, 19, 20, 21, 22, 23, 24, 25, 26, 27, 28, 29, 30, 31, 32, 33, 34, 35, 36, 37, 38, 51, 52, 53, 54, 55, 56, 57, 58, 59, 60, 61, 62, 63, 64, 65, 66, 67, 68, 69, 70, 71, 72, 73, 74, 75] (by decide +kernel) (by decide +kernel)
set_option maxRecDepth 20000 in
theorem gX10_partOf_X10_implies : GoodIn wsX10_partOf (wsV RX10 205 RX10 yX10_implies wsX10_implies) := goodIn_app (goodIn_of _ (by decide +kernel)) ggX10_partOf_X10_implies
set_option maxRecDepth 20000 in
theorem ggX10_partOf_X10_both : GoodIn wsX10_partOf wsX10_both := goodIn_r _ [46, 3, 4, 5, 6, 7, 8, 9, 10, 11, 12, 13, 14, 15, 16, 17, 18, 19, 20, 21, 22, 23, 24, 25, 26, 27, 28, 29, 30, 31, 32, 33, 34, 35, 36, 37, 38, 51, 52, 53, 54, 55, 56, 57, 58, 59, 60, 61, 62, 63, 64, 65, 66, 67, 68, 69, 70, 71, 72, 73, 74, 75] (by decide +kernel) (by decide +kernel)
set_option maxRecDepth 20000 in
theorem gX10_partOf_X10_both : GoodIn wsX10_partOf (wsV RX10 208 RX10 yX10_both wsX10_both) := goodIn_app (goodIn_of _ (by decide +kernel)) ggX10_partOf_X10_both
set_option maxRecDepth 20000 in
theorem ggX10_partOf_X10_either : GoodIn wsX10_partOf wsX10_either := goodIn_r _ [50, 3, 4, 5, 6, 7, 8, 9, 10, 11, 12, 13, 14, 15, 16, 17, 18, 19, 20, 21, 22, 23, 24, 25, 26, 27, 28, 29, 30, 31, 32, 33, 34, 35, 36, 37, 38, 51, 52, 53, 54, 55, 56, 57, 58, 59, 60, 61, 62, 63, 64, 65, 66, 67, 68, 69, 70, 71, 72, 73, 74, 75] (by decide +kernel) (by decide +kernel)
set_option maxRecDepth 20000 in
theorem gX10_partOf_X10_either : GoodIn wsX10_partOf (wsV RX10 211 RX10 yX10_either wsX10_either) := goodIn_app (goodIn_of _ (by decide +kernel)) ggX10_partOf_X10_either
theorem dX10_partOf_0 : decode cX10_partOf 0 = .ok (.bipush 17, 2) := by decide +kernel
theorem dX10_partOf_2 : decode cX10_partOf 2 = .ok (.bipush 31, 2) := by decide +kernel
theorem dX10_partOf_4 : decode cX10_partOf 4 = .ok (.iload_n 1, 1) := by decide +kernel
theorem dX10_partOf_5 : decode cX10_partOf 5 = .ok (.imul, 1) := by decide +kernel
theorem dX10_partOf_6 : decode cX10_partOf 6 = .ok (.iadd, 1) := by decide +kernel
theorem dX10_partOf_7 : decode cX10_partOf 7 = .ok (.istore_n 2, 1) := by decide +kernel
theorem dX10_partOf_8 : decode cX10_partOf 8 = .ok (.iconst 0, 1) := by decide +kernel
theorem dX10_partOf_9 : decode cX10_partOf 9 = .ok (.istore_n 3, 1) := by decide +kernel
theorem dX10_partOf_10 : decode cX10_partOf 10 = .ok (.iconst 1, 1) := by decide +kernel
theorem dX10_partOf_11 : decode cX10_partOf 11 = .ok (.istore 4, 2) := by decide +kernel
theorem dX10_partOf_13 : decode cX10_partOf 13 = .ok (.iload 4, 2) := by decide +kernel
theorem dX10_partOf_15 : decode cX10_partOf 15 = .ok (.aload_n 0, 1) := by decide +kernel
theorem dX10_partOf_16 : decode cX10_partOf 16 = .ok (.getfield 7, 3) := by decide +kernel
theorem dX10_partOf_19 : decode cX10_partOf 19 = .ok (.iload_n 2, 1) := by decide +kernel
theorem dX10_partOf_20 : decode cX10_partOf 20 = .ok (.iaload, 1) := by decide +kernel
theorem dX10_partOf_21 : decode cX10_partOf 21 = .ok (.if_icmp .gt 173, 3) := by decide +kernel
theorem dX10_partOf_24 : decode cX10_partOf 24 = .ok (.aload_n 0, 1) := by decide +kernel
theorem dX10_partOf_25 : decode cX10_partOf 25 = .ok (.getfield 7, 3) := by decide +kernel
theorem dX10_partOf_28 : decode cX10_partOf 28 = .ok (.iload_n 2, 1) := by decide +kernel
theorem dX10_partOf_29 : decode cX10_partOf 29 = .ok (.iload 4, 2) := by decide +kernel
theorem dX10_partOf_31 : decode cX10_partOf 31 = .ok (.iadd, 1) := by decide +kernel
theorem dX10_partOf_32 : decode cX10_partOf 32 = .ok (.iaload, 1) := by decide +kernel
theorem dX10_partOf_33 : decode cX10_partOf 33 = .ok (.istore 5, 2) := by decide +kernel
theorem dX10_partOf_35 : decode cX10_partOf 35 = .ok (.iload 5, 2) := by decide +kernel
theorem dX10_partOf_37 : decode cX10_partOf 37 = .ok (.iconst 4, 1) := by decide +kernel
theorem dX10_partOf_38 : decode cX10_partOf 38 = .ok (.if_icmp .ge 23, 3) := by decide +kernel
theorem dX10_partOf_41 : decode cX10_partOf 41 = .ok (.aload_n 0, 1) := by decide +kernel
theorem dX10_partOf_42 : decode cX10_partOf 42 = .ok (.getfield 35, 3) := by decide +kernel
theorem dX10_partOf_45 : decode cX10_partOf 45 = .ok (.iload_n 3, 1) := by decide +kernel
theorem dX10_partOf_46 : decode cX10_partOf 46 = .ok (.aload_n 0, 1) := by decide +kernel
theorem dX10_partOf_47 : decode cX10_partOf 47 = .ok (.iload 5, 2) := by decide +kernel
theorem dX10_partOf_49 : decode cX10_partOf 49 = .ok (.iconst 0, 1) := by decide +kernel
theorem dX10_partOf_50 : decode cX10_partOf 50 = .ok (.iconst 0, 1) := by decide +kernel
theorem dX10_partOf_51 : decode cX10_partOf 51 = .ok (.invokevirtual 175, 3) := by decide +kernel
theorem dX10_partOf_54 : decode cX10_partOf 54 = .ok (.iastore, 1) := by decide +kernel
theorem dX10_partOf_55 : decode cX10_partOf 55 = .ok (.iinc 3 1, 3) := by decide +kernel
theorem dX10_partOf_58 : decode cX10_partOf 58 = .ok (.goto 130, 3) := by decide +kernel
theorem dX10_partOf_61 : decode cX10_partOf 61 = .ok (.iload 5, 2) := by decide +kernel
theorem dX10_partOf_63 : decode cX10_partOf 63 = .ok (.bipush 6, 2) := by decide +kernel
theorem dX10_partOf_65 : decode cX10_partOf 65 = .ok (.if_icmp .ge 19, 3) := by decide +kernel
theorem dX10_partOf_68 : decode cX10_partOf 68 = .ok (.aload_n 0, 1) := by decide +kernel
theorem dX10_partOf_69 : decode cX10_partOf 69 = .ok (.getfield 35, 3) := by decide +kernel
theorem dX10_partOf_72 : decode cX10_partOf 72 = .ok (.iload_n 3, 1) := by decide +kernel
theorem dX10_partOf_73 : decode cX10_partOf 73 = .ok (.iload 5, 2) := by decide +kernel
theorem dX10_partOf_75 : decode cX10_partOf 75 = .ok (.iconst 4, 1) := by decide +kernel
theorem dX10_partOf_76 : decode cX10_partOf 76 = .ok (.isub, 1) := by decide +kernel
theorem dX10_partOf_77 : decode cX10_partOf 77 = .ok (.iastore, 1) := by decide +kernel
theorem dX10_partOf_78 : decode cX10_partOf 78 = .ok (.iinc 3 1, 3) := by decide +kernel
theorem dX10_partOf_81 : decode cX10_partOf 81 = .ok (.goto 107, 3) := by decide +kernel
theorem dX10_partOf_84 : decode cX10_partOf 84 = .ok (.iload 5, 2) := by decide +kernel
theorem dX10_partOf_86 : decode cX10_partOf 86 = .ok (.bipush 6, 2) := by decide +kernel
theorem dX10_partOf_88 : decode cX10_partOf 88 = .ok (.if_icmp .ne 27, 3) := by decide +kernel
theorem dX10_partOf_91 : decode cX10_partOf 91 = .ok (.aload_n 0, 1) := by decide +kernel
theorem dX10_partOf_92 : decode cX10_partOf 92 = .ok (.getfield 35, 3) := by decide +kernel
theorem dX10_partOf_95 : decode cX10_partOf 95 = .ok (.iload_n 3, 1) := by decide +kernel
theorem dX10_partOf_96 : decode cX10_partOf 96 = .ok (.iconst 1, 1) := by decide +kernel
theorem dX10_partOf_97 : decode cX10_partOf 97 = .ok (.isub, 1) := by decide +kernel
theorem dX10_partOf_98 : decode cX10_partOf 98 = .ok (.aload_n 0, 1) := by decide +kernel
theorem dX10_partOf_99 : decode cX10_partOf 99 = .ok (.aload_n 0, 1) := by decide +kernel
theorem dX10_partOf_100 : decode cX10_partOf 100 = .ok (.getfield 35, 3) := by decide +kernel
theorem dX10_partOf_103 : decode cX10_partOf 103 = .ok (.iload_n 3, 1) := by decide +kernel
theorem dX10_partOf_104 : decode cX10_partOf 104 = .ok (.iconst 1, 1) := by decide +kernel
theorem dX10_partOf_105 : decode cX10_partOf 105 = .ok (.isub, 1) := by decide +kernel
theorem dX10_partOf_106 : decode cX10_partOf 106 = .ok (.iaload, 1) := by decide +kernel
theorem dX10_partOf_107 : decode cX10_partOf 107 = .ok (.iconst 1, 1) := by decide +kernel
theorem dX10_partOf_108 : decode cX10_partOf 108 = .ok (.invokevirtual 205, 3) := by decide +kernel
theorem dX10_partOf_111 : decode cX10_partOf 111 = .ok (.iastore, 1) := by decide +kernel
theorem dX10_partOf_112 : decode cX10_partOf 112 = .ok (.goto 76, 3) := by decide +kernel
theorem dX10_partOf_115 : decode cX10_partOf 115 = .ok (.iinc 3 (-1), 3) := by decide +kernel
theorem dX10_partOf_118 : decode cX10_partOf 118 = .ok (.aload_n 0, 1) := by decide +kernel
theorem dX10_partOf_119 : decode cX10_partOf 119 = .ok (.getfield 35, 3) := by decide +kernel
theorem dX10_partOf_122 : decode cX10_partOf 122 = .ok (.iload_n 3, 1) := by decide +kernel
theorem dX10_partOf_123 : decode cX10_partOf 123 = .ok (.iconst 1, 1) := by decide +kernel
theorem dX10_partOf_124 : decode cX10_partOf 124 = .ok (.isub, 1) := by decide +kernel
theorem dX10_partOf_125 : decode cX10_partOf 125 = .ok (.iaload, 1) := by decide +kernel
theorem dX10_partOf_126 : decode cX10_partOf 126 = .ok (.istore 6, 2) := by decide +kernel
theorem dX10_partOf_128 : decode cX10_partOf 128 = .ok (.aload_n 0, 1) := by decide +kernel
theorem dX10_partOf_129 : decode cX10_partOf 129 = .ok (.getfield 35, 3) := by decide +kernel
theorem dX10_partOf_132 : decode cX10_partOf 132 = .ok (.iload_n 3, 1) := by decide +kernel
theorem dX10_partOf_133 : decode cX10_partOf 133 = .ok (.iaload, 1) := by decide +kernel
theorem dX10_partOf_134 : decode cX10_partOf 134 = .ok (.istore 7, 2) := by decide +kernel
theorem dX10_partOf_136 : decode cX10_partOf 136 = .ok (.aload_n 0, 1) := by decide +kernel
theorem dX10_partOf_137 : decode cX10_partOf 137 = .ok (.getfield 35, 3) := by decide +kernel
theorem dX10_partOf_140 : decode cX10_partOf 140 = .ok (.iload_n 3, 1) := by decide +kernel
theorem dX10_partOf_141 : decode cX10_partOf 141 = .ok (.iconst 1, 1) := by decide +kernel
theorem dX10_partOf_142 : decode cX10_partOf 142 = .ok (.isub, 1) := by decide +kernel
theorem dX10_partOf_143 : decode cX10_partOf 143 = .ok (.iload 5, 2) := by decide +kernel
theorem dX10_partOf_145 : decode cX10_partOf 145 = .ok (.bipush 7, 2) := by decide +kernel
theorem dX10_partOf_147 : decode cX10_partOf 147 = .ok (.if_icmp .ne 14, 3) := by decide +kernel
theorem dX10_partOf_150 : decode cX10_partOf 150 = .ok (.aload_n 0, 1) := by decide +kernel
theorem dX10_partOf_151 : decode cX10_partOf 151 = .ok (.iload 6, 2) := by decide +kernel
theorem dX10_partOf_153 : decode cX10_partOf 153 = .ok (.iload 7, 2) := by decide +kernel
theorem dX10_partOf_155 : decode cX10_partOf 155 = .ok (.invokevirtual 208, 3) := by decide +kernel
theorem dX10_partOf_158 : decode cX10_partOf 158 = .ok (.goto 29, 3) := by decide +kernel
theorem dX10_partOf_161 : decode cX10_partOf 161 = .ok (.iload 5, 2) := by decide +kernel
theorem dX10_partOf_163 : decode cX10_partOf 163 = .ok (.bipush 8, 2) := by decide +kernel
theorem dX10_partOf_165 : decode cX10_partOf 165 = .ok (.if_icmp .ne 14, 3) := by decide +kernel
theorem dX10_partOf_168 : decode cX10_partOf 168 = .ok (.aload_n 0, 1) := by decide +kernel
theorem dX10_partOf_169 : decode cX10_partOf 169 = .ok (.iload 6, 2) := by decide +kernel
theorem dX10_partOf_171 : decode cX10_partOf 171 = .ok (.iload 7, 2) := by decide +kernel
theorem dX10_partOf_173 : decode cX10_partOf 173 = .ok (.invokevirtual 211, 3) := by decide +kernel
theorem dX10_partOf_176 : decode cX10_partOf 176 = .ok (.goto 11, 3) := by decide +kernel
theorem dX10_partOf_179 : decode cX10_partOf 179 = .ok (.aload_n 0, 1) := by decide +kernel
theorem dX10_partOf_180 : decode cX10_partOf 180 = .ok (.iload 6, 2) := by decide +kernel
theorem dX10_partOf_182 : decode cX10_partOf 182 = .ok (.iload 7, 2) := by decide +kernel
theorem dX10_partOf_184 : decode cX10_partOf 184 = .ok (.invokevirtual 205, 3) := by decide +kernel
theorem dX10_partOf_187 : decode cX10_partOf 187 = .ok (.iastore, 1) := by decide +kernel
theorem dX10_partOf_188 : decode cX10_partOf 188 = .ok (.iinc 4 1, 3) := by decide +kernel
theorem dX10_partOf_191 : decode cX10_partOf 191 = .ok (.goto (-178), 3) := by decide +kernel
theorem dX10_partOf_194 : decode cX10_partOf 194 = .ok (.aload_n 0, 1) := by decide +kernel
theorem dX10_partOf_195 : decode cX10_partOf 195 = .ok (.getfield 35, 3) := by decide +kernel
theorem dX10_partOf_198 : decode cX10_partOf 198 = .ok (.iconst 0, 1) := by decide +kernel
theorem dX10_partOf_199 : decode cX10_partOf 199 = .ok (.iaload, 1) := by decide +kernel
theorem dX10_partOf_200 : decode cX10_partOf 200 = .ok (.ireturn, 1) := by decide +kernel
theorem dX10_has_0 : decode cX10_has 0 = .ok (.aload_n 0, 1) := by decide +kernel
theorem dX10_has_1 : decode cX10_has 1 = .ok (.getfield 51, 3) := by decide +kernel
theorem dX10_has_4 : decode cX10_has 4 = .ok (.bipush 32, 2) := by decide +kernel
theorem dX10_has_6 : decode cX10_has 6 = .ok (.iload_n 1, 1) := by decide +kernel
theorem dX10_has_7 : decode cX10_has 7 = .ok (.imul, 1) := by decide +kernel
theorem dX10_has_8 : decode cX10_has 8 = .ok (.iload_n 2, 1) := by decide +kernel
theorem dX10_has_9 : decode cX10_has 9 = .ok (.bipush 32, 2) := by decide +kernel
theorem dX10_has_11 : decode cX10_has 11 = .ok (.idiv, 1) := by decide +kernel
theorem dX10_has_12 : decode cX10_has 12 = .ok (.iadd, 1) := by decide +kernel
theorem dX10_has_13 : decode cX10_has 13 = .ok (.iaload, 1) := by decide +kernel
theorem dX10_has_14 : decode cX10_has 14 = .ok (.iload_n 2, 1) := by decide +kernel
theorem dX10_has_15 : decode cX10_has 15 = .ok (.bipush 32, 2) := by decide +kernel
theorem dX10_has_17 : decode cX10_has 17 = .ok (.irem, 1) := by decide +kernel
theorem dX10_has_18 : decode cX10_has 18 = .ok (.iushr, 1) := by decide +kernel
theorem dX10_has_19 : decode cX10_has 19 = .ok (.iconst 1, 1) := by decide +kernel
theorem dX10_has_20 : decode cX10_has 20 = .ok (.iand, 1) := by decide +kernel
theorem dX10_has_21 : decode cX10_has 21 = .ok (.iconst 1, 1) := by decide +kernel
theorem dX10_has_22 : decode cX10_has 22 = .ok (.if_icmp .ne 7, 3) := by decide +kernel
theorem dX10_has_25 : decode cX10_has 25 = .ok (.iconst 1, 1) := by decide +kernel
theorem dX10_has_26 : decode cX10_has 26 = .ok (.goto 4, 3) := by decide +kernel
theorem dX10_has_29 : decode cX10_has 29 = .ok (.iconst 0, 1) := by decide +kernel
theorem dX10_has_30 : decode cX10_has 30 = .ok (.ireturn, 1) := by decide +kernel
theorem dX10_gets_0 : decode cX10_gets 0 = .ok (.aload_n 0, 1) := by decide +kernel
theorem dX10_gets_1 : decode cX10_gets 1 = .ok (.getfield 51, 3) := by decide +kernel
theorem dX10_gets_4 : decode cX10_gets 4 = .ok (.bipush 32, 2) := by decide +kernel
theorem dX10_gets_6 : decode cX10_gets 6 = .ok (.iload_n 1, 1) := by decide +kernel
theorem dX10_gets_7 : decode cX10_gets 7 = .ok (.imul, 1) := by decide +kernel
theorem dX10_gets_8 : decode cX10_gets 8 = .ok (.iload_n 2, 1) := by decide +kernel
theorem dX10_gets_9 : decode cX10_gets 9 = .ok (.bipush 32, 2) := by decide +kernel
theorem dX10_gets_11 : decode cX10_gets 11 = .ok (.idiv, 1) := by decide +kernel
theorem dX10_gets_12 : decode cX10_gets 12 = .ok (.iadd, 1) := by decide +kernel
theorem dX10_gets_13 : decode cX10_gets 13 = .ok (.dup2, 1) := by decide +kernel
theorem dX10_gets_14 : decode cX10_gets 14 = .ok (.iaload, 1) := by decide +kernel
theorem dX10_gets_15 : decode cX10_gets 15 = .ok (.iconst 1, 1) := by decide +kernel
theorem dX10_gets_16 : decode cX10_gets 16 = .ok (.iload_n 2, 1) := by decide +kernel
theorem dX10_gets_17 : decode cX10_gets 17 = .ok (.bipush 32, 2) := by decide +kernel
theorem dX10_gets_19 : decode cX10_gets 19 = .ok (.irem, 1) := by decide +kernel
theorem dX10_gets_20 : decode cX10_gets 20 = .ok (.ishl, 1) := by decide +kernel
theorem dX10_gets_21 : decode cX10_gets 21 = .ok (.ior, 1) := by decide +kernel
theorem dX10_gets_22 : decode cX10_gets 22 = .ok (.iastore, 1) := by decide +kernel
theorem dX10_gets_23 : decode cX10_gets 23 = .ok (.return_, 1) := by decide +kernel
theorem dX10_loses_0 : decode cX10_loses 0 = .ok (.aload_n 0, 1) := by decide +kernel
theorem dX10_loses_1 : decode cX10_loses 1 = .ok (.getfield 51, 3) := by decide +kernel
theorem dX10_loses_4 : decode cX10_loses 4 = .ok (.bipush 32, 2) := by decide +kernel
theorem dX10_loses_6 : decode cX10_loses 6 = .ok (.iload_n 1, 1) := by decide +kernel
theorem dX10_loses_7 : decode cX10_loses 7 = .ok (.imul, 1) := by decide +kernel
theorem dX10_loses_8 : decode cX10_loses 8 = .ok (.iload_n 2, 1) := by decide +kernel
theorem dX10_loses_9 : decode cX10_loses 9 = .ok (.bipush 32, 2) := by decide +kernel
theorem dX10_loses_11 : decode cX10_loses 11 = .ok (.idiv, 1) := by decide +kernel
theorem dX10_loses_12 : decode cX10_loses 12 = .ok (.iadd, 1) := by decide +kernel
theorem dX10_loses_13 : decode cX10_loses 13 = .ok (.dup2, 1) := by decide +kernel
theorem dX10_loses_14 : decode cX10_loses 14 = .ok (.iaload, 1) := by decide +kernel
theorem dX10_loses_15 : decode cX10_loses 15 = .ok (.iconst 1, 1) := by decide +kernel
theorem dX10_loses_16 : decode cX10_loses 16 = .ok (.iload_n 2, 1) := by decide +kernel
theorem dX10_loses_17 : decode cX10_loses 17 = .ok (.bipush 32, 2) := by decide +kernel
theorem dX10_loses_19 : decode cX10_loses 19 = .ok (.irem, 1) := by decide +kernel
theorem dX10_loses_20 : decode cX10_loses 20 = .ok (.ishl, 1) := by decide +kernel
theorem dX10_loses_21 : decode cX10_loses 21 = .ok (.iconst (-1), 1) := by decide +kernel
theorem dX10_loses_22 : decode cX10_loses 22 = .ok (.ixor, 1) := by decide +kernel
theorem dX10_loses_23 : decode cX10_loses 23 = .ok (.iand, 1) := by decide +kernel
theorem dX10_loses_24 : decode cX10_loses 24 = .ok (.iastore, 1) := by decide +kernel
theorem dX10_loses_25 : decode cX10_loses 25 = .ok (.return_, 1) := by decide +kernel
theorem dX10_leadsOn_0 : decode cX10_leadsOn 0 = .ok (.iconst 0, 1) := by decide +kernel
theorem dX10_leadsOn_1 : decode cX10_leadsOn 1 = .ok (.istore_n 3, 1) := by decide +kernel
theorem dX10_leadsOn_2 : decode cX10_leadsOn 2 = .ok (.iload_n 3, 1) := by decide +kernel
theorem dX10_leadsOn_3 : decode cX10_leadsOn 3 = .ok (.bipush 32, 2) := by decide +kernel
theorem dX10_leadsOn_5 : decode cX10_leadsOn 5 = .ok (.if_icmp .ge 34, 3) := by decide +kernel
theorem dX10_leadsOn_8 : decode cX10_leadsOn 8 = .ok (.aload_n 0, 1) := by decide +kernel
theorem dX10_leadsOn_9 : decode cX10_leadsOn 9 = .ok (.getfield 51, 3) := by decide +kernel
theorem dX10_leadsOn_12 : decode cX10_leadsOn 12 = .ok (.bipush 32, 2) := by decide +kernel
theorem dX10_leadsOn_14 : decode cX10_leadsOn 14 = .ok (.iload_n 1, 1) := by decide +kernel
theorem dX10_leadsOn_15 : decode cX10_leadsOn 15 = .ok (.imul, 1) := by decide +kernel
theorem dX10_leadsOn_16 : decode cX10_leadsOn 16 = .ok (.bipush 32, 2) := by decide +kernel
theorem dX10_leadsOn_18 : decode cX10_leadsOn 18 = .ok (.iadd, 1) := by decide +kernel
theorem dX10_leadsOn_19 : decode cX10_leadsOn 19 = .ok (.iload_n 3, 1) := by decide +kernel
theorem dX10_leadsOn_20 : decode cX10_leadsOn 20 = .ok (.iadd, 1) := by decide +kernel
theorem dX10_leadsOn_21 : decode cX10_leadsOn 21 = .ok (.aload_n 0, 1) := by decide +kernel
theorem dX10_leadsOn_22 : decode cX10_leadsOn 22 = .ok (.getfield 51, 3) := by decide +kernel
theorem dX10_leadsOn_25 : decode cX10_leadsOn 25 = .ok (.bipush 32, 2) := by decide +kernel
theorem dX10_leadsOn_27 : decode cX10_leadsOn 27 = .ok (.iload_n 1, 1) := by decide +kernel
theorem dX10_leadsOn_28 : decode cX10_leadsOn 28 = .ok (.imul, 1) := by decide +kernel
theorem dX10_leadsOn_29 : decode cX10_leadsOn 29 = .ok (.iload_n 3, 1) := by decide +kernel
theorem dX10_leadsOn_30 : decode cX10_leadsOn 30 = .ok (.iadd, 1) := by decide +kernel
theorem dX10_leadsOn_31 : decode cX10_leadsOn 31 = .ok (.iaload, 1) := by decide +kernel
theorem dX10_leadsOn_32 : decode cX10_leadsOn 32 = .ok (.iastore, 1) := by decide +kernel
theorem dX10_leadsOn_33 : decode cX10_leadsOn 33 = .ok (.iinc 3 1, 3) := by decide +kernel
theorem dX10_leadsOn_36 : decode cX10_leadsOn 36 = .ok (.goto (-34), 3) := by decide +kernel
theorem dX10_leadsOn_39 : decode cX10_leadsOn 39 = .ok (.aload_n 0, 1) := by decide +kernel
theorem dX10_leadsOn_40 : decode cX10_leadsOn 40 = .ok (.getfield 54, 3) := by decide +kernel
theorem dX10_leadsOn_43 : decode cX10_leadsOn 43 = .ok (.iload_n 1, 1) := by decide +kernel
theorem dX10_leadsOn_44 : decode cX10_leadsOn 44 = .ok (.iconst 1, 1) := by decide +kernel
theorem dX10_leadsOn_45 : decode cX10_leadsOn 45 = .ok (.iadd, 1) := by decide +kernel
theorem dX10_leadsOn_46 : decode cX10_leadsOn 46 = .ok (.iload_n 2, 1) := by decide +kernel
theorem dX10_leadsOn_47 : decode cX10_leadsOn 47 = .ok (.iastore, 1) := by decide +kernel
theorem dX10_leadsOn_48 : decode cX10_leadsOn 48 = .ok (.aload_n 0, 1) := by decide +kernel
theorem dX10_leadsOn_49 : decode cX10_leadsOn 49 = .ok (.getfield 57, 3) := by decide +kernel
theorem dX10_leadsOn_52 : decode cX10_leadsOn 52 = .ok (.iload_n 1, 1) := by decide +kernel
theorem dX10_leadsOn_53 : decode cX10_leadsOn 53 = .ok (.iconst 1, 1) := by decide +kernel
theorem dX10_leadsOn_54 : decode cX10_leadsOn 54 = .ok (.iadd, 1) := by decide +kernel
theorem dX10_leadsOn_55 : decode cX10_leadsOn 55 = .ok (.iconst 0, 1) := by decide +kernel
theorem dX10_leadsOn_56 : decode cX10_leadsOn 56 = .ok (.iastore, 1) := by decide +kernel
theorem dX10_leadsOn_57 : decode cX10_leadsOn 57 = .ok (.return_, 1) := by decide +kernel
set_option maxRecDepth 20000 in
theorem ggX10_refutes_X10_wordEnd : GoodIn wsX10_refutes wsX10_wordEnd := goodIn_r _ [8] (by decide +kernel) (by decide +kernel)
set_option maxRecDepth 20000 in
theorem gX10_refutes_X10_wordEnd : GoodIn wsX10_refutes (va_wsS RX10 215 yX10_wordEnd wsX10_wordEnd) := goodIn_app (goodIn_of _ (by decide +kernel)) ggX10_refutes_X10_wordEnd
set_option maxRecDepth 20000 in
theorem ggX10_refutes_X10_has : GoodIn wsX10_refutes wsX10_has := goodIn_r _ [12, 13, 14, 15, 16, 17, 18, 19, 20, 21, 22, 23, 24, 25, 26, 27, 28, 29, 30, 31, 32, 33, 34, 35, 36, 37, 38] (by decide +kernel) (by decide +kernel)
set_option maxRecDepth 20000 in
theorem gX10_refutes_X10_has : GoodIn wsX10_refutes (wsV RX10 218 RX10 yX10_has wsX10_has) := goodIn_app (goodIn_of _ (by decide +kernel)) ggX10_refutes_X10_has
theorem dX10_refutes_0 : decode cX10_refutes 0 = .ok (.iconst 1, 1) := by decide +kernel
theorem dX10_refutes_1 : decode cX10_refutes 1 = .ok (.istore_n 2, 1) := by decide +kernel
theorem dX10_refutes_2 : decode cX10_refutes 2 = .ok (.iconst 0, 1) := by decide +kernel
theorem dX10_refutes_3 : decode cX10_refutes 3 = .ok (.istore_n 3, 1) := by decide +kernel
theorem dX10_refutes_4 : decode cX10_refutes 4 = .ok (.iconst 0, 1) := by decide +kernel
theorem dX10_refutes_5 : decode cX10_refutes 5 = .ok (.istore 4, 2) := by decide +kernel
theorem dX10_refutes_7 : decode cX10_refutes 7 = .ok (.iload 4, 2) := by decide +kernel
theorem dX10_refutes_9 : decode cX10_refutes 9 = .ok (.bipush 91, 2) := by decide +kernel
theorem dX10_refutes_11 : decode cX10_refutes 11 = .ok (.if_icmp .ge 171, 3) := by decide +kernel
theorem dX10_refutes_14 : decode cX10_refutes 14 = .ok (.iload 4, 2) := by decide +kernel
theorem dX10_refutes_16 : decode cX10_refutes 16 = .ok (.ifCond .ne 8, 3) := by decide +kernel
theorem dX10_refutes_19 : decode cX10_refutes 19 = .ok (.ldc 214, 2) := by decide +kernel
theorem dX10_refutes_21 : decode cX10_refutes 21 = .ok (.goto 47, 3) := by decide +kernel
theorem dX10_refutes_24 : decode cX10_refutes 24 = .ok (.iload 4, 2) := by decide +kernel
theorem dX10_refutes_26 : decode cX10_refutes 26 = .ok (.bipush 7, 2) := by decide +kernel
theorem dX10_refutes_28 : decode cX10_refutes 28 = .ok (.if_icmp .ge 16, 3) := by decide +kernel
theorem dX10_refutes_31 : decode cX10_refutes 31 = .ok (.iload 4, 2) := by decide +kernel
theorem dX10_refutes_33 : decode cX10_refutes 33 = .ok (.iconst 1, 1) := by decide +kernel
theorem dX10_refutes_34 : decode cX10_refutes 34 = .ok (.isub, 1) := by decide +kernel
theorem dX10_refutes_35 : decode cX10_refutes 35 = .ok (.iconst 3, 1) := by decide +kernel
theorem dX10_refutes_36 : decode cX10_refutes 36 = .ok (.bipush 81, 2) := by decide +kernel
theorem dX10_refutes_38 : decode cX10_refutes 38 = .ok (.invokestatic 215, 3) := by decide +kernel
theorem dX10_refutes_41 : decode cX10_refutes 41 = .ok (.goto 27, 3) := by decide +kernel
theorem dX10_refutes_44 : decode cX10_refutes 44 = .ok (.iload 4, 2) := by decide +kernel
theorem dX10_refutes_46 : decode cX10_refutes 46 = .ok (.bipush 31, 2) := by decide +kernel
theorem dX10_refutes_48 : decode cX10_refutes 48 = .ok (.if_icmp .ge 7, 3) := by decide +kernel
theorem dX10_refutes_51 : decode cX10_refutes 51 = .ok (.iconst (-1), 1) := by decide +kernel
theorem dX10_refutes_52 : decode cX10_refutes 52 = .ok (.goto 16, 3) := by decide +kernel
theorem dX10_refutes_55 : decode cX10_refutes 55 = .ok (.iload 4, 2) := by decide +kernel
theorem dX10_refutes_57 : decode cX10_refutes 57 = .ok (.bipush 31, 2) := by decide +kernel
theorem dX10_refutes_59 : decode cX10_refutes 59 = .ok (.isub, 1) := by decide +kernel
theorem dX10_refutes_60 : decode cX10_refutes 60 = .ok (.bipush 20, 2) := by decide +kernel
theorem dX10_refutes_62 : decode cX10_refutes 62 = .ok (.sipush 625, 3) := by decide +kernel
theorem dX10_refutes_65 : decode cX10_refutes 65 = .ok (.invokestatic 215, 3) := by decide +kernel
theorem dX10_refutes_68 : decode cX10_refutes 68 = .ok (.istore 5, 2) := by decide +kernel
theorem dX10_refutes_70 : decode cX10_refutes 70 = .ok (.iconst 0, 1) := by decide +kernel
theorem dX10_refutes_71 : decode cX10_refutes 71 = .ok (.istore 6, 2) := by decide +kernel
theorem dX10_refutes_73 : decode cX10_refutes 73 = .ok (.iload 6, 2) := by decide +kernel
theorem dX10_refutes_75 : decode cX10_refutes 75 = .ok (.aload_n 0, 1) := by decide +kernel
theorem dX10_refutes_76 : decode cX10_refutes 76 = .ok (.getfield 172, 3) := by decide +kernel
theorem dX10_refutes_79 : decode cX10_refutes 79 = .ok (.if_icmp .ge 46, 3) := by decide +kernel
theorem dX10_refutes_82 : decode cX10_refutes 82 = .ok (.iload 5, 2) := by decide +kernel
theorem dX10_refutes_84 : decode cX10_refutes 84 = .ok (.ifCond .eq 41, 3) := by decide +kernel
theorem dX10_refutes_87 : decode cX10_refutes 87 = .ok (.iload 5, 2) := by decide +kernel
theorem dX10_refutes_89 : decode cX10_refutes 89 = .ok (.aload_n 0, 1) := by decide +kernel
theorem dX10_refutes_90 : decode cX10_refutes 90 = .ok (.iload_n 1, 1) := by decide +kernel
theorem dX10_refutes_91 : decode cX10_refutes 91 = .ok (.iload 6, 2) := by decide +kernel
theorem dX10_refutes_93 : decode cX10_refutes 93 = .ok (.invokevirtual 218, 3) := by decide +kernel
theorem dX10_refutes_96 : decode cX10_refutes 96 = .ok (.ifCond .eq 19, 3) := by decide +kernel
theorem dX10_refutes_99 : decode cX10_refutes 99 = .ok (.aload_n 0, 1) := by decide +kernel
theorem dX10_refutes_100 : decode cX10_refutes 100 = .ok (.getfield 48, 3) := by decide +kernel
theorem dX10_refutes_103 : decode cX10_refutes 103 = .ok (.bipush 91, 2) := by decide +kernel
theorem dX10_refutes_105 : decode cX10_refutes 105 = .ok (.iload 6, 2) := by decide +kernel
theorem dX10_refutes_107 : decode cX10_refutes 107 = .ok (.imul, 1) := by decide +kernel
theorem dX10_refutes_108 : decode cX10_refutes 108 = .ok (.iload 4, 2) := by decide +kernel
theorem dX10_refutes_110 : decode cX10_refutes 110 = .ok (.iadd, 1) := by decide +kernel
theorem dX10_refutes_111 : decode cX10_refutes 111 = .ok (.iaload, 1) := by decide +kernel
theorem dX10_refutes_112 : decode cX10_refutes 112 = .ok (.goto 4, 3) := by decide +kernel
theorem dX10_refutes_115 : decode cX10_refutes 115 = .ok (.iconst (-1), 1) := by decide +kernel
theorem dX10_refutes_116 : decode cX10_refutes 116 = .ok (.iand, 1) := by decide +kernel
theorem dX10_refutes_117 : decode cX10_refutes 117 = .ok (.istore 5, 2) := by decide +kernel
theorem dX10_refutes_119 : decode cX10_refutes 119 = .ok (.iinc 6 1, 3) := by decide +kernel
theorem dX10_refutes_122 : decode cX10_refutes 122 = .ok (.goto (-49), 3) := by decide +kernel
theorem dX10_refutes_125 : decode cX10_refutes 125 = .ok (.iload_n 2, 1) := by decide +kernel
theorem dX10_refutes_126 : decode cX10_refutes 126 = .ok (.iload 4, 2) := by decide +kernel
theorem dX10_refutes_128 : decode cX10_refutes 128 = .ok (.ifCond .gt 8, 3) := by decide +kernel
theorem dX10_refutes_131 : decode cX10_refutes 131 = .ok (.iload 5, 2) := by decide +kernel
theorem dX10_refutes_133 : decode cX10_refutes 133 = .ok (.ifCond .ne 7, 3) := by decide +kernel
theorem dX10_refutes_136 : decode cX10_refutes 136 = .ok (.iconst 1, 1) := by decide +kernel
theorem dX10_refutes_137 : decode cX10_refutes 137 = .ok (.goto 4, 3) := by decide +kernel
theorem dX10_refutes_140 : decode cX10_refutes 140 = .ok (.iconst 0, 1) := by decide +kernel
theorem dX10_refutes_141 : decode cX10_refutes 141 = .ok (.iand, 1) := by decide +kernel
theorem dX10_refutes_142 : decode cX10_refutes 142 = .ok (.istore_n 2, 1) := by decide +kernel
theorem dX10_refutes_143 : decode cX10_refutes 143 = .ok (.iload_n 3, 1) := by decide +kernel
theorem dX10_refutes_144 : decode cX10_refutes 144 = .ok (.iload 5, 2) := by decide +kernel
theorem dX10_refutes_146 : decode cX10_refutes 146 = .ok (.aload_n 0, 1) := by decide +kernel
theorem dX10_refutes_147 : decode cX10_refutes 147 = .ok (.getfield 48, 3) := by decide +kernel
theorem dX10_refutes_150 : decode cX10_refutes 150 = .ok (.bipush 91, 2) := by decide +kernel
theorem dX10_refutes_152 : decode cX10_refutes 152 = .ok (.aload_n 0, 1) := by decide +kernel
theorem dX10_refutes_153 : decode cX10_refutes 153 = .ok (.getfield 54, 3) := by decide +kernel
theorem dX10_refutes_156 : decode cX10_refutes 156 = .ok (.iload_n 1, 1) := by decide +kernel
theorem dX10_refutes_157 : decode cX10_refutes 157 = .ok (.iaload, 1) := by decide +kernel
theorem dX10_refutes_158 : decode cX10_refutes 158 = .ok (.imul, 1) := by decide +kernel
theorem dX10_refutes_159 : decode cX10_refutes 159 = .ok (.iload 4, 2) := by decide +kernel
theorem dX10_refutes_161 : decode cX10_refutes 161 = .ok (.iadd, 1) := by decide +kernel
theorem dX10_refutes_162 : decode cX10_refutes 162 = .ok (.iaload, 1) := by decide +kernel
theorem dX10_refutes_163 : decode cX10_refutes 163 = .ok (.iconst (-1), 1) := by decide +kernel
theorem dX10_refutes_164 : decode cX10_refutes 164 = .ok (.ixor, 1) := by decide +kernel
theorem dX10_refutes_165 : decode cX10_refutes 165 = .ok (.iand, 1) := by decide +kernel
theorem dX10_refutes_166 : decode cX10_refutes 166 = .ok (.ifCond .eq 7, 3) := by decide +kernel
theorem dX10_refutes_169 : decode cX10_refutes 169 = .ok (.iconst 1, 1) := by decide +kernel
theorem dX10_refutes_170 : decode cX10_refutes 170 = .ok (.goto 4, 3) := by decide +kernel
theorem dX10_refutes_173 : decode cX10_refutes 173 = .ok (.iconst 0, 1) := by decide +kernel
theorem dX10_refutes_174 : decode cX10_refutes 174 = .ok (.ior, 1) := by decide +kernel
theorem dX10_refutes_175 : decode cX10_refutes 175 = .ok (.istore_n 3, 1) := by decide +kernel
theorem dX10_refutes_176 : decode cX10_refutes 176 = .ok (.iinc 4 1, 3) := by decide +kernel
theorem dX10_refutes_179 : decode cX10_refutes 179 = .ok (.goto (-172), 3) := by decide +kernel
theorem dX10_refutes_182 : decode cX10_refutes 182 = .ok (.iload_n 2, 1) := by decide +kernel
theorem dX10_refutes_183 : decode cX10_refutes 183 = .ok (.ifCond .eq 7, 3) := by decide +kernel
theorem dX10_refutes_186 : decode cX10_refutes 186 = .ok (.iconst 2, 1) := by decide +kernel
theorem dX10_refutes_187 : decode cX10_refutes 187 = .ok (.goto 12, 3) := by decide +kernel
theorem dX10_refutes_190 : decode cX10_refutes 190 = .ok (.iload_n 3, 1) := by decide +kernel
theorem dX10_refutes_191 : decode cX10_refutes 191 = .ok (.ifCond .eq 7, 3) := by decide +kernel
theorem dX10_refutes_194 : decode cX10_refutes 194 = .ok (.iconst 1, 1) := by decide +kernel
theorem dX10_refutes_195 : decode cX10_refutes 195 = .ok (.goto 4, 3) := by decide +kernel
theorem dX10_refutes_198 : decode cX10_refutes 198 = .ok (.iconst 0, 1) := by decide +kernel
theorem dX10_refutes_199 : decode cX10_refutes 199 = .ok (.ireturn, 1) := by decide +kernel
theorem dX10_wordEnd_0 : decode cX10_wordEnd 0 = .ok (.iload_n 2, 1) := by decide +kernel
theorem dX10_wordEnd_1 : decode cX10_wordEnd 1 = .ok (.bipush 32, 2) := by decide +kernel
theorem dX10_wordEnd_3 : decode cX10_wordEnd 3 = .ok (.iload_n 0, 1) := by decide +kernel
theorem dX10_wordEnd_4 : decode cX10_wordEnd 4 = .ok (.iload_n 1, 1) := by decide +kernel
theorem dX10_wordEnd_5 : decode cX10_wordEnd 5 = .ok (.irem, 1) := by decide +kernel
theorem dX10_wordEnd_6 : decode cX10_wordEnd 6 = .ok (.imul, 1) := by decide +kernel
theorem dX10_wordEnd_7 : decode cX10_wordEnd 7 = .ok (.isub, 1) := by decide +kernel
theorem dX10_wordEnd_8 : decode cX10_wordEnd 8 = .ok (.istore_n 3, 1) := by decide +kernel
theorem dX10_wordEnd_9 : decode cX10_wordEnd 9 = .ok (.iload_n 3, 1) := by decide +kernel
theorem dX10_wordEnd_10 : decode cX10_wordEnd 10 = .ok (.bipush 32, 2) := by decide +kernel
theorem dX10_wordEnd_12 : decode cX10_wordEnd 12 = .ok (.if_icmp .lt 7, 3) := by decide +kernel
theorem dX10_wordEnd_15 : decode cX10_wordEnd 15 = .ok (.iconst (-1), 1) := by decide +kernel
theorem dX10_wordEnd_16 : decode cX10_wordEnd 16 = .ok (.goto 8, 3) := by decide +kernel
theorem dX10_wordEnd_19 : decode cX10_wordEnd 19 = .ok (.iconst 1, 1) := by decide +kernel
theorem dX10_wordEnd_20 : decode cX10_wordEnd 20 = .ok (.iload_n 3, 1) := by decide +kernel
theorem dX10_wordEnd_21 : decode cX10_wordEnd 21 = .ok (.ishl, 1) := by decide +kernel
theorem dX10_wordEnd_22 : decode cX10_wordEnd 22 = .ok (.iconst 1, 1) := by decide +kernel
theorem dX10_wordEnd_23 : decode cX10_wordEnd 23 = .ok (.isub, 1) := by decide +kernel
theorem dX10_wordEnd_24 : decode cX10_wordEnd 24 = .ok (.ireturn, 1) := by decide +kernel
set_option maxRecDepth 20000 in
theorem ggX10_loosens_X10_loses : GoodIn wsX10_loosens wsX10_loses := goodIn_r _ [8, 9, 54, 55, 56, 57, 58, 59, 60, 61, 62, 63, 64, 65, 66, 67, 68, 69, 70, 71, 72, 73, 74, 75, 76, 77, 78] (by decide +kernel) (by decide +kernel)
set_option maxRecDepth 20000 in
theorem gX10_loosens_X10_loses : GoodIn wsX10_loosens (wsV RX10 221 RX10 yX10_loses wsX10_loses) := goodIn_app (goodIn_of _ (by decide +kernel)) ggX10_loosens_X10_loses
set_option maxRecDepth 20000 in
theorem ggX10_loosens_X10_gets : GoodIn wsX10_loosens wsX10_gets := goodIn_r _ [13, 9, 54, 55, 56, 57, 58, 59, 60, 61, 62, 63, 64, 65, 66, 67, 68, 69, 70, 71, 72, 73, 74, 75, 76, 77, 78] (by decide +kernel) (by decide +kernel)
set_option maxRecDepth 20000 in
theorem gX10_loosens_X10_gets : GoodIn wsX10_loosens (wsV RX10 225 RX10 yX10_gets wsX10_gets) := goodIn_app (goodIn_of _ (by decide +kernel)) ggX10_loosens_X10_gets
set_option maxRecDepth 20000 in
theorem ggX10_loosens_X10_has : GoodIn wsX10_loosens wsX10_has := goodIn_r _ [17, 9, 54, 55, 56, 57, 58, 59, 60, 61, 62, 63, 64, 65, 66, 67, 68, 69, 70, 71, 72, 73, 74, 75, 76, 77, 78] (by decide +kernel) (by decide +kernel)
set_option maxRecDepth 20000 in
theorem gX10_loosens_X10_has : GoodIn wsX10_loosens (wsV RX10 218 RX10 yX10_has wsX10_has) := goodIn_app (goodIn_of _ (by decide +kernel)) ggX10_loosens_X10_has
set_option maxRecDepth 20000 in
theorem ggX10_loosens_X10_implies : GoodIn wsX10_loosens wsX10_implies := goodIn_r _ [21, 22, 23, 24, 7, 25, 26, 3, 1, 2, 27, 28, 29, 30, 31, 32, 33, 34, 35, 36, 37, 38, 39, 40, 41, 42, 43, 44, 45, 46, 47, 48, 49, 50, 51, 52, 53, 54, 55, 56, 57, 58, 59, 60, 61, 62, 63, 64, 65, 66, 67, 68, 69, 70, 71, 72, 73, 74, 75, 76, 77, 78] (by decide +kernel) (by decide +kernel)
set_option maxRecDepth 20000 in
theorem gX10_loosens_X10_implies : GoodIn wsX10_loosens (wsV RX10 205 RX10 yX10_implies wsX10_implies) := goodIn_app (goodIn_of _ (by decide +kernel)) ggX10_loosens_X10_implies
theorem dX10_loosens_0 : decode cX10_loosens 0 = .ok (.aload_n 0, 1) := by decide +kernel
theorem dX10_loosens_1 : decode cX10_loosens 1 = .ok (.getfield 41, 3) := by decide +kernel
theorem dX10_loosens_4 : decode cX10_loosens 4 = .ok (.iload_n 2, 1) := by decide +kernel
theorem dX10_loosens_5 : decode cX10_loosens 5 = .ok (.iaload, 1) := by decide +kernel
theorem dX10_loosens_6 : decode cX10_loosens 6 = .ok (.istore_n 3, 1) := by decide +kernel
theorem dX10_loosens_7 : decode cX10_loosens 7 = .ok (.aload_n 0, 1) := by decide +kernel
theorem dX10_loosens_8 : decode cX10_loosens 8 = .ok (.getfield 44, 3) := by decide +kernel
theorem dX10_loosens_11 : decode cX10_loosens 11 = .ok (.iload_n 2, 1) := by decide +kernel
theorem dX10_loosens_12 : decode cX10_loosens 12 = .ok (.iaload, 1) := by decide +kernel
theorem dX10_loosens_13 : decode cX10_loosens 13 = .ok (.istore 4, 2) := by decide +kernel
theorem dX10_loosens_15 : decode cX10_loosens 15 = .ok (.aload_n 0, 1) := by decide +kernel
theorem dX10_loosens_16 : decode cX10_loosens 16 = .ok (.getfield 38, 3) := by decide +kernel
theorem dX10_loosens_19 : decode cX10_loosens 19 = .ok (.iload_n 2, 1) := by decide +kernel
theorem dX10_loosens_20 : decode cX10_loosens 20 = .ok (.iaload, 1) := by decide +kernel
theorem dX10_loosens_21 : decode cX10_loosens 21 = .ok (.bipush 7, 2) := by decide +kernel
theorem dX10_loosens_23 : decode cX10_loosens 23 = .ok (.if_icmp .ne 24, 3) := by decide +kernel
theorem dX10_loosens_26 : decode cX10_loosens 26 = .ok (.aload_n 0, 1) := by decide +kernel
theorem dX10_loosens_27 : decode cX10_loosens 27 = .ok (.iload_n 1, 1) := by decide +kernel
theorem dX10_loosens_28 : decode cX10_loosens 28 = .ok (.iload_n 2, 1) := by decide +kernel
theorem dX10_loosens_29 : decode cX10_loosens 29 = .ok (.invokevirtual 221, 3) := by decide +kernel
theorem dX10_loosens_32 : decode cX10_loosens 32 = .ok (.aload_n 0, 1) := by decide +kernel
theorem dX10_loosens_33 : decode cX10_loosens 33 = .ok (.iload_n 1, 1) := by decide +kernel
theorem dX10_loosens_34 : decode cX10_loosens 34 = .ok (.iload_n 3, 1) := by decide +kernel
theorem dX10_loosens_35 : decode cX10_loosens 35 = .ok (.invokevirtual 225, 3) := by decide +kernel
theorem dX10_loosens_38 : decode cX10_loosens 38 = .ok (.aload_n 0, 1) := by decide +kernel
theorem dX10_loosens_39 : decode cX10_loosens 39 = .ok (.iload_n 1, 1) := by decide +kernel
theorem dX10_loosens_40 : decode cX10_loosens 40 = .ok (.iload 4, 2) := by decide +kernel
theorem dX10_loosens_42 : decode cX10_loosens 42 = .ok (.invokevirtual 225, 3) := by decide +kernel
theorem dX10_loosens_45 : decode cX10_loosens 45 = .ok (.iconst 1, 1) := by decide +kernel
theorem dX10_loosens_46 : decode cX10_loosens 46 = .ok (.ireturn, 1) := by decide +kernel
theorem dX10_loosens_47 : decode cX10_loosens 47 = .ok (.aload_n 0, 1) := by decide +kernel
theorem dX10_loosens_48 : decode cX10_loosens 48 = .ok (.getfield 38, 3) := by decide +kernel
theorem dX10_loosens_51 : decode cX10_loosens 51 = .ok (.iload_n 2, 1) := by decide +kernel
theorem dX10_loosens_52 : decode cX10_loosens 52 = .ok (.iaload, 1) := by decide +kernel
theorem dX10_loosens_53 : decode cX10_loosens 53 = .ok (.bipush 8, 2) := by decide +kernel
theorem dX10_loosens_55 : decode cX10_loosens 55 = .ok (.if_icmp .ne 43, 3) := by decide +kernel
theorem dX10_loosens_58 : decode cX10_loosens 58 = .ok (.aload_n 0, 1) := by decide +kernel
theorem dX10_loosens_59 : decode cX10_loosens 59 = .ok (.iload_n 1, 1) := by decide +kernel
theorem dX10_loosens_60 : decode cX10_loosens 60 = .ok (.iload_n 3, 1) := by decide +kernel
theorem dX10_loosens_61 : decode cX10_loosens 61 = .ok (.invokevirtual 218, 3) := by decide +kernel
theorem dX10_loosens_64 : decode cX10_loosens 64 = .ok (.ifCond .ne 13, 3) := by decide +kernel
theorem dX10_loosens_67 : decode cX10_loosens 67 = .ok (.aload_n 0, 1) := by decide +kernel
theorem dX10_loosens_68 : decode cX10_loosens 68 = .ok (.iload_n 1, 1) := by decide +kernel
theorem dX10_loosens_69 : decode cX10_loosens 69 = .ok (.iload 4, 2) := by decide +kernel
theorem dX10_loosens_71 : decode cX10_loosens 71 = .ok (.invokevirtual 218, 3) := by decide +kernel
theorem dX10_loosens_74 : decode cX10_loosens 74 = .ok (.ifCond .eq 7, 3) := by decide +kernel
theorem dX10_loosens_77 : decode cX10_loosens 77 = .ok (.iconst 1, 1) := by decide +kernel
theorem dX10_loosens_78 : decode cX10_loosens 78 = .ok (.goto 4, 3) := by decide +kernel
theorem dX10_loosens_81 : decode cX10_loosens 81 = .ok (.iconst 0, 1) := by decide +kernel
theorem dX10_loosens_82 : decode cX10_loosens 82 = .ok (.istore 5, 2) := by decide +kernel
theorem dX10_loosens_84 : decode cX10_loosens 84 = .ok (.iload 5, 2) := by decide +kernel
theorem dX10_loosens_86 : decode cX10_loosens 86 = .ok (.ifCond .eq 9, 3) := by decide +kernel
theorem dX10_loosens_89 : decode cX10_loosens 89 = .ok (.aload_n 0, 1) := by decide +kernel
theorem dX10_loosens_90 : decode cX10_loosens 90 = .ok (.iload_n 1, 1) := by decide +kernel
theorem dX10_loosens_91 : decode cX10_loosens 91 = .ok (.iload_n 2, 1) := by decide +kernel
theorem dX10_loosens_92 : decode cX10_loosens 92 = .ok (.invokevirtual 221, 3) := by decide +kernel
theorem dX10_loosens_95 : decode cX10_loosens 95 = .ok (.iload 5, 2) := by decide +kernel
theorem dX10_loosens_97 : decode cX10_loosens 97 = .ok (.ireturn, 1) := by decide +kernel
theorem dX10_loosens_98 : decode cX10_loosens 98 = .ok (.aload_n 0, 1) := by decide +kernel
theorem dX10_loosens_99 : decode cX10_loosens 99 = .ok (.getfield 38, 3) := by decide +kernel
theorem dX10_loosens_102 : decode cX10_loosens 102 = .ok (.iload_n 2, 1) := by decide +kernel
theorem dX10_loosens_103 : decode cX10_loosens 103 = .ok (.iaload, 1) := by decide +kernel
theorem dX10_loosens_104 : decode cX10_loosens 104 = .ok (.bipush 9, 2) := by decide +kernel
theorem dX10_loosens_106 : decode cX10_loosens 106 = .ok (.if_icmp .eq 5, 3) := by decide +kernel
theorem dX10_loosens_109 : decode cX10_loosens 109 = .ok (.iconst 0, 1) := by decide +kernel
theorem dX10_loosens_110 : decode cX10_loosens 110 = .ok (.ireturn, 1) := by decide +kernel
theorem dX10_loosens_111 : decode cX10_loosens 111 = .ok (.aload_n 0, 1) := by decide +kernel
theorem dX10_loosens_112 : decode cX10_loosens 112 = .ok (.iload_n 1, 1) := by decide +kernel
theorem dX10_loosens_113 : decode cX10_loosens 113 = .ok (.iload_n 3, 1) := by decide +kernel
theorem dX10_loosens_114 : decode cX10_loosens 114 = .ok (.invokevirtual 218, 3) := by decide +kernel
theorem dX10_loosens_117 : decode cX10_loosens 117 = .ok (.ifCond .ne 13, 3) := by decide +kernel
theorem dX10_loosens_120 : decode cX10_loosens 120 = .ok (.aload_n 0, 1) := by decide +kernel
theorem dX10_loosens_121 : decode cX10_loosens 121 = .ok (.iload_n 1, 1) := by decide +kernel
theorem dX10_loosens_122 : decode cX10_loosens 122 = .ok (.iload 4, 2) := by decide +kernel
theorem dX10_loosens_124 : decode cX10_loosens 124 = .ok (.invokevirtual 218, 3) := by decide +kernel
theorem dX10_loosens_127 : decode cX10_loosens 127 = .ok (.ifCond .eq 18, 3) := by decide +kernel
theorem dX10_loosens_130 : decode cX10_loosens 130 = .ok (.aload_n 0, 1) := by decide +kernel
theorem dX10_loosens_131 : decode cX10_loosens 131 = .ok (.iload_n 1, 1) := by decide +kernel
theorem dX10_loosens_132 : decode cX10_loosens 132 = .ok (.iload_n 2, 1) := by decide +kernel
theorem dX10_loosens_133 : decode cX10_loosens 133 = .ok (.invokevirtual 221, 3) := by decide +kernel
theorem dX10_loosens_136 : decode cX10_loosens 136 = .ok (.aload_n 0, 1) := by decide +kernel
theorem dX10_loosens_137 : decode cX10_loosens 137 = .ok (.iload_n 1, 1) := by decide +kernel
theorem dX10_loosens_138 : decode cX10_loosens 138 = .ok (.iload 4, 2) := by decide +kernel
theorem dX10_loosens_140 : decode cX10_loosens 140 = .ok (.invokevirtual 225, 3) := by decide +kernel
theorem dX10_loosens_143 : decode cX10_loosens 143 = .ok (.iconst 1, 1) := by decide +kernel
theorem dX10_loosens_144 : decode cX10_loosens 144 = .ok (.ireturn, 1) := by decide +kernel
theorem dX10_loosens_145 : decode cX10_loosens 145 = .ok (.aload_n 0, 1) := by decide +kernel
theorem dX10_loosens_146 : decode cX10_loosens 146 = .ok (.getfield 38, 3) := by decide +kernel
theorem dX10_loosens_149 : decode cX10_loosens 149 = .ok (.iload_n 3, 1) := by decide +kernel
theorem dX10_loosens_150 : decode cX10_loosens 150 = .ok (.iaload, 1) := by decide +kernel
theorem dX10_loosens_151 : decode cX10_loosens 151 = .ok (.bipush 7, 2) := by decide +kernel
theorem dX10_loosens_153 : decode cX10_loosens 153 = .ok (.if_icmp .ne 38, 3) := by decide +kernel
theorem dX10_loosens_156 : decode cX10_loosens 156 = .ok (.aload_n 0, 1) := by decide +kernel
theorem dX10_loosens_157 : decode cX10_loosens 157 = .ok (.iload_n 1, 1) := by decide +kernel
theorem dX10_loosens_158 : decode cX10_loosens 158 = .ok (.iload_n 2, 1) := by decide +kernel
theorem dX10_loosens_159 : decode cX10_loosens 159 = .ok (.invokevirtual 221, 3) := by decide +kernel
theorem dX10_loosens_162 : decode cX10_loosens 162 = .ok (.aload_n 0, 1) := by decide +kernel
theorem dX10_loosens_163 : decode cX10_loosens 163 = .ok (.iload_n 1, 1) := by decide +kernel
theorem dX10_loosens_164 : decode cX10_loosens 164 = .ok (.aload_n 0, 1) := by decide +kernel
theorem dX10_loosens_165 : decode cX10_loosens 165 = .ok (.aload_n 0, 1) := by decide +kernel
theorem dX10_loosens_166 : decode cX10_loosens 166 = .ok (.getfield 41, 3) := by decide +kernel
theorem dX10_loosens_169 : decode cX10_loosens 169 = .ok (.iload_n 3, 1) := by decide +kernel
theorem dX10_loosens_170 : decode cX10_loosens 170 = .ok (.iaload, 1) := by decide +kernel
theorem dX10_loosens_171 : decode cX10_loosens 171 = .ok (.aload_n 0, 1) := by decide +kernel
theorem dX10_loosens_172 : decode cX10_loosens 172 = .ok (.aload_n 0, 1) := by decide +kernel
theorem dX10_loosens_173 : decode cX10_loosens 173 = .ok (.getfield 44, 3) := by decide +kernel
theorem dX10_loosens_176 : decode cX10_loosens 176 = .ok (.iload_n 3, 1) := by decide +kernel
theorem dX10_loosens_177 : decode cX10_loosens 177 = .ok (.iaload, 1) := by decide +kernel
theorem dX10_loosens_178 : decode cX10_loosens 178 = .ok (.iload 4, 2) := by decide +kernel
theorem dX10_loosens_180 : decode cX10_loosens 180 = .ok (.invokevirtual 205, 3) := by decide +kernel
theorem dX10_loosens_183 : decode cX10_loosens 183 = .ok (.invokevirtual 205, 3) := by decide +kernel
theorem dX10_loosens_186 : decode cX10_loosens 186 = .ok (.invokevirtual 225, 3) := by decide +kernel
theorem dX10_loosens_189 : decode cX10_loosens 189 = .ok (.iconst 1, 1) := by decide +kernel
theorem dX10_loosens_190 : decode cX10_loosens 190 = .ok (.ireturn, 1) := by decide +kernel
theorem dX10_loosens_191 : decode cX10_loosens 191 = .ok (.aload_n 0, 1) := by decide +kernel
theorem dX10_loosens_192 : decode cX10_loosens 192 = .ok (.getfield 38, 3) := by decide +kernel
theorem dX10_loosens_195 : decode cX10_loosens 195 = .ok (.iload_n 3, 1) := by decide +kernel
theorem dX10_loosens_196 : decode cX10_loosens 196 = .ok (.iaload, 1) := by decide +kernel
theorem dX10_loosens_197 : decode cX10_loosens 197 = .ok (.bipush 8, 2) := by decide +kernel
theorem dX10_loosens_199 : decode cX10_loosens 199 = .ok (.if_icmp .ne 45, 3) := by decide +kernel
theorem dX10_loosens_202 : decode cX10_loosens 202 = .ok (.aload_n 0, 1) := by decide +kernel
theorem dX10_loosens_203 : decode cX10_loosens 203 = .ok (.iload_n 1, 1) := by decide +kernel
theorem dX10_loosens_204 : decode cX10_loosens 204 = .ok (.iload_n 2, 1) := by decide +kernel
theorem dX10_loosens_205 : decode cX10_loosens 205 = .ok (.invokevirtual 221, 3) := by decide +kernel
theorem dX10_loosens_208 : decode cX10_loosens 208 = .ok (.aload_n 0, 1) := by decide +kernel
theorem dX10_loosens_209 : decode cX10_loosens 209 = .ok (.iload_n 1, 1) := by decide +kernel
theorem dX10_loosens_210 : decode cX10_loosens 210 = .ok (.aload_n 0, 1) := by decide +kernel
theorem dX10_loosens_211 : decode cX10_loosens 211 = .ok (.aload_n 0, 1) := by decide +kernel
theorem dX10_loosens_212 : decode cX10_loosens 212 = .ok (.getfield 41, 3) := by decide +kernel
theorem dX10_loosens_215 : decode cX10_loosens 215 = .ok (.iload_n 3, 1) := by decide +kernel
theorem dX10_loosens_216 : decode cX10_loosens 216 = .ok (.iaload, 1) := by decide +kernel
theorem dX10_loosens_217 : decode cX10_loosens 217 = .ok (.iload 4, 2) := by decide +kernel
theorem dX10_loosens_219 : decode cX10_loosens 219 = .ok (.invokevirtual 205, 3) := by decide +kernel
theorem dX10_loosens_222 : decode cX10_loosens 222 = .ok (.invokevirtual 225, 3) := by decide +kernel
theorem dX10_loosens_225 : decode cX10_loosens 225 = .ok (.aload_n 0, 1) := by decide +kernel
theorem dX10_loosens_226 : decode cX10_loosens 226 = .ok (.iload_n 1, 1) := by decide +kernel
theorem dX10_loosens_227 : decode cX10_loosens 227 = .ok (.aload_n 0, 1) := by decide +kernel
theorem dX10_loosens_228 : decode cX10_loosens 228 = .ok (.aload_n 0, 1) := by decide +kernel
theorem dX10_loosens_229 : decode cX10_loosens 229 = .ok (.getfield 44, 3) := by decide +kernel
theorem dX10_loosens_232 : decode cX10_loosens 232 = .ok (.iload_n 3, 1) := by decide +kernel
theorem dX10_loosens_233 : decode cX10_loosens 233 = .ok (.iaload, 1) := by decide +kernel
theorem dX10_loosens_234 : decode cX10_loosens 234 = .ok (.iload 4, 2) := by decide +kernel
theorem dX10_loosens_236 : decode cX10_loosens 236 = .ok (.invokevirtual 205, 3) := by decide +kernel
theorem dX10_loosens_239 : decode cX10_loosens 239 = .ok (.invokevirtual 225, 3) := by decide +kernel
theorem dX10_loosens_242 : decode cX10_loosens 242 = .ok (.iconst 1, 1) := by decide +kernel
theorem dX10_loosens_243 : decode cX10_loosens 243 = .ok (.ireturn, 1) := by decide +kernel
theorem dX10_loosens_244 : decode cX10_loosens 244 = .ok (.iconst 0, 1) := by decide +kernel
theorem dX10_loosens_245 : decode cX10_loosens 245 = .ok (.ireturn, 1) := by decide +kernel
set_option maxRecDepth 20000 in
theorem ggX10_settles_X10_loses : GoodIn wsX10_settles wsX10_loses := goodIn_r _ [10, 11, 67, 68, 69, 70, 71, 72, 73, 74, 75, 76, 77, 78, 79, 80, 81, 82, 83, 84, 85, 86, 87, 88, 89, 90, 91] (by decide +kernel) (by decide +kernel)
set_option maxRecDepth 20000 in
theorem gX10_settles_X10_loses : GoodIn wsX10_settles (wsV RX10 221 RX10 yX10_loses wsX10_loses) := goodIn_app (goodIn_of _ (by decide +kernel)) ggX10_settles_X10_loses
set_option maxRecDepth 20000 in
theorem ggX10_settles_X10_gets : GoodIn wsX10_settles wsX10_gets := goodIn_r _ [15, 11, 67, 68, 69, 70, 71, 72, 73, 74, 75, 76, 77, 78, 79, 80, 81, 82, 83, 84, 85, 86, 87, 88, 89, 90, 91] (by decide +kernel) (by decide +kernel)
set_option maxRecDepth 20000 in
theorem gX10_settles_X10_gets : GoodIn wsX10_settles (wsV RX10 225 RX10 yX10_gets wsX10_gets) := goodIn_app (goodIn_of _ (by decide +kernel)) ggX10_settles_X10_gets
set_option maxRecDepth 20000 in
theorem ggX10_settles_X10_has : GoodIn wsX10_settles wsX10_has := goodIn_r _ [19, 11, 67, 68, 69, 70, 71, 72, 73, 74, 75, 76, 77, 78, 79, 80, 81, 82, 83, 84, 85, 86, 87, 88, 89, 90, 91] (by decide +kernel) (by decide +kernel)
set_option maxRecDepth 20000 in
theorem gX10_settles_X10_has : GoodIn wsX10_settles (wsV RX10 218 RX10 yX10_has wsX10_has) := goodIn_app (goodIn_of _ (by decide +kernel)) ggX10_settles_X10_has
set_option maxRecDepth 20000 in
theorem ggX10_settles_X10_loosens : GoodIn wsX10_settles wsX10_loosens := goodIn_r _ [23, 3, 4, 1, 6, 7, 8, 9, 10, 11, 12, 13, 14, 15, 16, 17, 18, 19, 24, 25, 26, 27, 28, 29, 30, 31, 5, 32, 33, 34, 35, 36, 37, 38, 39, 40, 41, 42, 43, 44, 45, 46, 47, 48, 49, 50, 51, 52, 53, 54, 55, 56, 57, 58, 67, 68, 69, 70, 71, 72, 73, 74, 75, 76, 77, 78, 79, 80, 81, 82, 83, 84, 85, 86, 87, 88, 89, 90, 91] (by decide +kernel) (by decide +kernel)
set_option maxRecDepth 20000 in
theorem gX10_settles_X10_loosens : GoodIn wsX10_settles (wsV RX10 228 RX10 yX10_loosens wsX10_loosens) := goodIn_app (goodIn_of _ (by decide +kernel)) ggX10_settles_X10_loosens
set_option maxRecDepth 20000 in
theorem ggX10_settles_X10_refutes : GoodIn wsX10_settles wsX10_refutes := goodIn_r _ [62, 63, 5, 36, 2, 64, 65, 9, 66, 16, 17, 18, 19, 11, 67, 68, 69, 70, 71, 72, 73, 74, 75, 76, 77, 78, 79, 80, 81, 82, 83, 84, 85, 86, 87, 88, 89, 90, 91] (by decide +kernel) (by decide +kernel)
set_option maxRecDepth 20000 in
theorem gX10_settles_X10_refutes : GoodIn wsX10_settles (wsV RX10 231 RX10 yX10_refutes wsX10_refutes) := goodIn_app (goodIn_of _ (by decide +kernel)) ggX10_settles_X10_refutes
theorem dX10_settles_0 : decode cX10_settles 0 = .ok (.iconst 1, 1) := by decide +kernel
theorem dX10_settles_1 : decode cX10_settles 1 = .ok (.istore_n 2, 1) := by decide +kernel
theorem dX10_settles_2 : decode cX10_settles 2 = .ok (.iload_n 2, 1) := by decide +kernel
theorem dX10_settles_3 : decode cX10_settles 3 = .ok (.ifCond .eq 148, 3) := by decide +kernel
theorem dX10_settles_6 : decode cX10_settles 6 = .ok (.iconst 0, 1) := by decide +kernel
theorem dX10_settles_7 : decode cX10_settles 7 = .ok (.istore_n 2, 1) := by decide +kernel
theorem dX10_settles_8 : decode cX10_settles 8 = .ok (.aload_n 0, 1) := by decide +kernel
theorem dX10_settles_9 : decode cX10_settles 9 = .ok (.iload_n 1, 1) := by decide +kernel
theorem dX10_settles_10 : decode cX10_settles 10 = .ok (.iconst 0, 1) := by decide +kernel
theorem dX10_settles_11 : decode cX10_settles 11 = .ok (.invokevirtual 221, 3) := by decide +kernel
theorem dX10_settles_14 : decode cX10_settles 14 = .ok (.aload_n 0, 1) := by decide +kernel
theorem dX10_settles_15 : decode cX10_settles 15 = .ok (.getfield 38, 3) := by decide +kernel
theorem dX10_settles_18 : decode cX10_settles 18 = .ok (.aload_n 0, 1) := by decide +kernel
theorem dX10_settles_19 : decode cX10_settles 19 = .ok (.getfield 54, 3) := by decide +kernel
theorem dX10_settles_22 : decode cX10_settles 22 = .ok (.iload_n 1, 1) := by decide +kernel
theorem dX10_settles_23 : decode cX10_settles 23 = .ok (.iaload, 1) := by decide +kernel
theorem dX10_settles_24 : decode cX10_settles 24 = .ok (.iaload, 1) := by decide +kernel
theorem dX10_settles_25 : decode cX10_settles 25 = .ok (.bipush 9, 2) := by decide +kernel
theorem dX10_settles_27 : decode cX10_settles 27 = .ok (.if_icmp .ne 45, 3) := by decide +kernel
theorem dX10_settles_30 : decode cX10_settles 30 = .ok (.aload_n 0, 1) := by decide +kernel
theorem dX10_settles_31 : decode cX10_settles 31 = .ok (.iload_n 1, 1) := by decide +kernel
theorem dX10_settles_32 : decode cX10_settles 32 = .ok (.aload_n 0, 1) := by decide +kernel
theorem dX10_settles_33 : decode cX10_settles 33 = .ok (.getfield 41, 3) := by decide +kernel
theorem dX10_settles_36 : decode cX10_settles 36 = .ok (.aload_n 0, 1) := by decide +kernel
theorem dX10_settles_37 : decode cX10_settles 37 = .ok (.getfield 54, 3) := by decide +kernel
theorem dX10_settles_40 : decode cX10_settles 40 = .ok (.iload_n 1, 1) := by decide +kernel
theorem dX10_settles_41 : decode cX10_settles 41 = .ok (.iaload, 1) := by decide +kernel
theorem dX10_settles_42 : decode cX10_settles 42 = .ok (.iaload, 1) := by decide +kernel
theorem dX10_settles_43 : decode cX10_settles 43 = .ok (.invokevirtual 225, 3) := by decide +kernel
theorem dX10_settles_46 : decode cX10_settles 46 = .ok (.aload_n 0, 1) := by decide +kernel
theorem dX10_settles_47 : decode cX10_settles 47 = .ok (.getfield 54, 3) := by decide +kernel
theorem dX10_settles_50 : decode cX10_settles 50 = .ok (.iload_n 1, 1) := by decide +kernel
theorem dX10_settles_51 : decode cX10_settles 51 = .ok (.aload_n 0, 1) := by decide +kernel
theorem dX10_settles_52 : decode cX10_settles 52 = .ok (.getfield 44, 3) := by decide +kernel
theorem dX10_settles_55 : decode cX10_settles 55 = .ok (.aload_n 0, 1) := by decide +kernel
theorem dX10_settles_56 : decode cX10_settles 56 = .ok (.getfield 54, 3) := by decide +kernel
theorem dX10_settles_59 : decode cX10_settles 59 = .ok (.iload_n 1, 1) := by decide +kernel
theorem dX10_settles_60 : decode cX10_settles 60 = .ok (.iaload, 1) := by decide +kernel
theorem dX10_settles_61 : decode cX10_settles 61 = .ok (.iaload, 1) := by decide +kernel
theorem dX10_settles_62 : decode cX10_settles 62 = .ok (.iastore, 1) := by decide +kernel
theorem dX10_settles_63 : decode cX10_settles 63 = .ok (.aload_n 0, 1) := by decide +kernel
theorem dX10_settles_64 : decode cX10_settles 64 = .ok (.iload_n 1, 1) := by decide +kernel
theorem dX10_settles_65 : decode cX10_settles 65 = .ok (.iconst 0, 1) := by decide +kernel
theorem dX10_settles_66 : decode cX10_settles 66 = .ok (.invokevirtual 221, 3) := by decide +kernel
theorem dX10_settles_69 : decode cX10_settles 69 = .ok (.goto (-55), 3) := by decide +kernel
theorem dX10_settles_72 : decode cX10_settles 72 = .ok (.aload_n 0, 1) := by decide +kernel
theorem dX10_settles_73 : decode cX10_settles 73 = .ok (.getfield 54, 3) := by decide +kernel
theorem dX10_settles_76 : decode cX10_settles 76 = .ok (.iload_n 1, 1) := by decide +kernel
theorem dX10_settles_77 : decode cX10_settles 77 = .ok (.iaload, 1) := by decide +kernel
theorem dX10_settles_78 : decode cX10_settles 78 = .ok (.ifCond .eq 26, 3) := by decide +kernel
theorem dX10_settles_81 : decode cX10_settles 81 = .ok (.aload_n 0, 1) := by decide +kernel
theorem dX10_settles_82 : decode cX10_settles 82 = .ok (.iload_n 1, 1) := by decide +kernel
theorem dX10_settles_83 : decode cX10_settles 83 = .ok (.iconst 1, 1) := by decide +kernel
theorem dX10_settles_84 : decode cX10_settles 84 = .ok (.invokevirtual 218, 3) := by decide +kernel
theorem dX10_settles_87 : decode cX10_settles 87 = .ok (.ifCond .ne 17, 3) := by decide +kernel
theorem dX10_settles_90 : decode cX10_settles 90 = .ok (.aload_n 0, 1) := by decide +kernel
theorem dX10_settles_91 : decode cX10_settles 91 = .ok (.iload_n 1, 1) := by decide +kernel
theorem dX10_settles_92 : decode cX10_settles 92 = .ok (.aload_n 0, 1) := by decide +kernel
theorem dX10_settles_93 : decode cX10_settles 93 = .ok (.getfield 54, 3) := by decide +kernel
theorem dX10_settles_96 : decode cX10_settles 96 = .ok (.iload_n 1, 1) := by decide +kernel
theorem dX10_settles_97 : decode cX10_settles 97 = .ok (.iaload, 1) := by decide +kernel
theorem dX10_settles_98 : decode cX10_settles 98 = .ok (.invokevirtual 218, 3) := by decide +kernel
theorem dX10_settles_101 : decode cX10_settles 101 = .ok (.ifCond .eq 5, 3) := by decide +kernel
theorem dX10_settles_104 : decode cX10_settles 104 = .ok (.iconst 1, 1) := by decide +kernel
theorem dX10_settles_105 : decode cX10_settles 105 = .ok (.ireturn, 1) := by decide +kernel
theorem dX10_settles_106 : decode cX10_settles 106 = .ok (.iconst 2, 1) := by decide +kernel
theorem dX10_settles_107 : decode cX10_settles 107 = .ok (.istore_n 3, 1) := by decide +kernel
theorem dX10_settles_108 : decode cX10_settles 108 = .ok (.iload_n 3, 1) := by decide +kernel
theorem dX10_settles_109 : decode cX10_settles 109 = .ok (.aload_n 0, 1) := by decide +kernel
theorem dX10_settles_110 : decode cX10_settles 110 = .ok (.getfield 172, 3) := by decide +kernel
theorem dX10_settles_113 : decode cX10_settles 113 = .ok (.if_icmp .ge 35, 3) := by decide +kernel
theorem dX10_settles_116 : decode cX10_settles 116 = .ok (.iload_n 2, 1) := by decide +kernel
theorem dX10_settles_117 : decode cX10_settles 117 = .ok (.aload_n 0, 1) := by decide +kernel
theorem dX10_settles_118 : decode cX10_settles 118 = .ok (.iload_n 1, 1) := by decide +kernel
theorem dX10_settles_119 : decode cX10_settles 119 = .ok (.iload_n 3, 1) := by decide +kernel
theorem dX10_settles_120 : decode cX10_settles 120 = .ok (.invokevirtual 218, 3) := by decide +kernel
theorem dX10_settles_123 : decode cX10_settles 123 = .ok (.ifCond .eq 16, 3) := by decide +kernel
theorem dX10_settles_126 : decode cX10_settles 126 = .ok (.aload_n 0, 1) := by decide +kernel
theorem dX10_settles_127 : decode cX10_settles 127 = .ok (.iload_n 1, 1) := by decide +kernel
theorem dX10_settles_128 : decode cX10_settles 128 = .ok (.iload_n 3, 1) := by decide +kernel
theorem dX10_settles_129 : decode cX10_settles 129 = .ok (.invokevirtual 228, 3) := by decide +kernel
theorem dX10_settles_132 : decode cX10_settles 132 = .ok (.ifCond .eq 7, 3) := by decide +kernel
theorem dX10_settles_135 : decode cX10_settles 135 = .ok (.iconst 1, 1) := by decide +kernel
theorem dX10_settles_136 : decode cX10_settles 136 = .ok (.goto 4, 3) := by decide +kernel
theorem dX10_settles_139 : decode cX10_settles 139 = .ok (.iconst 0, 1) := by decide +kernel
theorem dX10_settles_140 : decode cX10_settles 140 = .ok (.ior, 1) := by decide +kernel
theorem dX10_settles_141 : decode cX10_settles 141 = .ok (.istore_n 2, 1) := by decide +kernel
theorem dX10_settles_142 : decode cX10_settles 142 = .ok (.iinc 3 1, 3) := by decide +kernel
theorem dX10_settles_145 : decode cX10_settles 145 = .ok (.goto (-37), 3) := by decide +kernel
theorem dX10_settles_148 : decode cX10_settles 148 = .ok (.goto (-146), 3) := by decide +kernel
theorem dX10_settles_151 : decode cX10_settles 151 = .ok (.aload_n 0, 1) := by decide +kernel
theorem dX10_settles_152 : decode cX10_settles 152 = .ok (.iload_n 1, 1) := by decide +kernel
theorem dX10_settles_153 : decode cX10_settles 153 = .ok (.invokevirtual 231, 3) := by decide +kernel
theorem dX10_settles_156 : decode cX10_settles 156 = .ok (.istore_n 3, 1) := by decide +kernel
theorem dX10_settles_157 : decode cX10_settles 157 = .ok (.iload_n 3, 1) := by decide +kernel
theorem dX10_settles_158 : decode cX10_settles 158 = .ok (.iconst 2, 1) := by decide +kernel
theorem dX10_settles_159 : decode cX10_settles 159 = .ok (.if_icmp .ne 7, 3) := by decide +kernel
theorem dX10_settles_162 : decode cX10_settles 162 = .ok (.iconst 1, 1) := by decide +kernel
theorem dX10_settles_163 : decode cX10_settles 163 = .ok (.goto 13, 3) := by decide +kernel
theorem dX10_settles_166 : decode cX10_settles 166 = .ok (.iload_n 3, 1) := by decide +kernel
theorem dX10_settles_167 : decode cX10_settles 167 = .ok (.iconst 1, 1) := by decide +kernel
theorem dX10_settles_168 : decode cX10_settles 168 = .ok (.if_icmp .ne 7, 3) := by decide +kernel
theorem dX10_settles_171 : decode cX10_settles 171 = .ok (.iconst 0, 1) := by decide +kernel
theorem dX10_settles_172 : decode cX10_settles 172 = .ok (.goto 4, 3) := by decide +kernel
theorem dX10_settles_175 : decode cX10_settles 175 = .ok (.iconst 2, 1) := by decide +kernel
theorem dX10_settles_176 : decode cX10_settles 176 = .ok (.ireturn, 1) := by decide +kernel
set_option maxRecDepth 20000 in
theorem ggX10_next_X10_has : GoodIn wsX10_next wsX10_has := goodIn_r _ [8, 9, 10, 11, 12, 13, 14, 15, 16, 17, 18, 19, 20, 21, 22, 23, 24, 25, 26, 27, 28, 29, 30, 31, 32, 33, 34] (by decide +kernel) (by decide +kernel)
set_option maxRecDepth 20000 in
theorem gX10_next_X10_has : GoodIn wsX10_next (wsV RX10 218 RX10 yX10_has wsX10_has) := goodIn_app (goodIn_of _ (by decide +kernel)) ggX10_next_X10_has
theorem dX10_next_0 : decode cX10_next 0 = .ok (.iload_n 2, 1) := by decide +kernel
theorem dX10_next_1 : decode cX10_next 1 = .ok (.istore 4, 2) := by decide +kernel
theorem dX10_next_3 : decode cX10_next 3 = .ok (.iload 4, 2) := by decide +kernel
theorem dX10_next_5 : decode cX10_next 5 = .ok (.aload_n 0, 1) := by decide +kernel
theorem dX10_next_6 : decode cX10_next 6 = .ok (.getfield 172, 3) := by decide +kernel
theorem dX10_next_9 : decode cX10_next 9 = .ok (.if_icmp .ge 56, 3) := by decide +kernel
theorem dX10_next_12 : decode cX10_next 12 = .ok (.aload_n 0, 1) := by decide +kernel
theorem dX10_next_13 : decode cX10_next 13 = .ok (.getfield 38, 3) := by decide +kernel
theorem dX10_next_16 : decode cX10_next 16 = .ok (.iload 4, 2) := by decide +kernel
theorem dX10_next_18 : decode cX10_next 18 = .ok (.iaload, 1) := by decide +kernel
theorem dX10_next_19 : decode cX10_next 19 = .ok (.iload_n 3, 1) := by decide +kernel
theorem dX10_next_20 : decode cX10_next 20 = .ok (.if_icmp .ne 39, 3) := by decide +kernel
theorem dX10_next_23 : decode cX10_next 23 = .ok (.aload_n 0, 1) := by decide +kernel
theorem dX10_next_24 : decode cX10_next 24 = .ok (.iload_n 1, 1) := by decide +kernel
theorem dX10_next_25 : decode cX10_next 25 = .ok (.iload 4, 2) := by decide +kernel
theorem dX10_next_27 : decode cX10_next 27 = .ok (.invokevirtual 218, 3) := by decide +kernel
theorem dX10_next_30 : decode cX10_next 30 = .ok (.ifCond .eq 29, 3) := by decide +kernel
theorem dX10_next_33 : decode cX10_next 33 = .ok (.iload_n 3, 1) := by decide +kernel
theorem dX10_next_34 : decode cX10_next 34 = .ok (.bipush 9, 2) := by decide +kernel
theorem dX10_next_36 : decode cX10_next 36 = .ok (.if_icmp .ne 20, 3) := by decide +kernel
theorem dX10_next_39 : decode cX10_next 39 = .ok (.aload_n 0, 1) := by decide +kernel
theorem dX10_next_40 : decode cX10_next 40 = .ok (.getfield 38, 3) := by decide +kernel
theorem dX10_next_43 : decode cX10_next 43 = .ok (.aload_n 0, 1) := by decide +kernel
theorem dX10_next_44 : decode cX10_next 44 = .ok (.getfield 41, 3) := by decide +kernel
theorem dX10_next_47 : decode cX10_next 47 = .ok (.iload 4, 2) := by decide +kernel
theorem dX10_next_49 : decode cX10_next 49 = .ok (.iaload, 1) := by decide +kernel
theorem dX10_next_50 : decode cX10_next 50 = .ok (.iaload, 1) := by decide +kernel
theorem dX10_next_51 : decode cX10_next 51 = .ok (.bipush 9, 2) := by decide +kernel
theorem dX10_next_53 : decode cX10_next 53 = .ok (.if_icmp .ne 6, 3) := by decide +kernel
theorem dX10_next_56 : decode cX10_next 56 = .ok (.iload 4, 2) := by decide +kernel
theorem dX10_next_58 : decode cX10_next 58 = .ok (.ireturn, 1) := by decide +kernel
theorem dX10_next_59 : decode cX10_next 59 = .ok (.iinc 4 1, 3) := by decide +kernel
theorem dX10_next_62 : decode cX10_next 62 = .ok (.goto (-59), 3) := by decide +kernel
theorem dX10_next_65 : decode cX10_next 65 = .ok (.bipush (-5), 2) := by decide +kernel
theorem dX10_next_67 : decode cX10_next 67 = .ok (.ireturn, 1) := by decide +kernel
set_option maxRecDepth 20000 in
theorem ggX10_begins_X10_leadsOn : GoodIn wsX10_begins wsX10_leadsOn := goodIn_r _ [10, 11, 1, 3, 69, 70, 71, 72, 73, 74, 75, 76, 77, 78, 79, 80, 81, 82, 83, 84, 85, 86, 87, 88, 89, 90, 91, 92, 93] (by decide +kernel) (by decide +kernel)
set_option maxRecDepth 20000 in
theorem gX10_begins_X10_leadsOn : GoodIn wsX10_begins (wsV RX10 234 RX10 yX10_leadsOn wsX10_leadsOn) := goodIn_app (goodIn_of _ (by decide +kernel)) ggX10_begins_X10_leadsOn
set_option maxRecDepth 20000 in
theorem ggX10_begins_X10_next : GoodIn wsX10_begins wsX10_next := goodIn_r _ [15, 16, 2, 4, 17, 18, 19, 9, 20, 11, 69, 70, 71, 72, 73, 74, 75, 76, 77, 78, 79, 80, 81, 82, 83, 84, 85, 86, 87, 88, 89, 90, 91, 92, 93] (by decide +kernel) (by decide +kernel)
set_option maxRecDepth 20000 in
theorem gX10_begins_X10_next : GoodIn wsX10_begins (wsV RX10 237 RX10 yX10_next wsX10_next) := goodIn_app (goodIn_of _ (by decide +kernel)) ggX10_begins_X10_next
set_option maxRecDepth 20000 in
theorem ggX10_begins_X10_loses : GoodIn wsX10_begins wsX10_loses := goodIn_r _ [24, 11, 69, 70, 71, 72, 73, 74, 75, 76, 77, 78, 79, 80, 81, 82, 83, 84, 85, 86, 87, 88, 89, 90, 91, 92, 93] (by decide +kernel) (by decide +kernel)
set_option maxRecDepth 20000 in
theorem gX10_begins_X10_loses : GoodIn wsX10_begins (wsV RX10 221 RX10 yX10_loses wsX10_loses) := goodIn_app (goodIn_of _ (by decide +kernel)) ggX10_begins_X10_loses
set_option maxRecDepth 20000 in
theorem ggX10_begins_X10_gets : GoodIn wsX10_begins wsX10_gets := goodIn_r _ [28, 11, 69, 70, 71, 72, 73, 74, 75, 76, 77, 78, 79, 80, 81, 82, 83, 84, 85, 86, 87, 88, 89, 90, 91, 92, 93] (by decide +kernel) (by decide +kernel)
set_option maxRecDepth 20000 in
theorem gX10_begins_X10_gets : GoodIn wsX10_begins (wsV RX10 225 RX10 yX10_gets wsX10_gets) := goodIn_app (goodIn_of _ (by decide +kernel)) ggX10_begins_X10_gets
set_option maxRecDepth 20000 in
theorem ggX10_begins_X10_tries : GoodIn wsX10_begins wsX10_tries := goodIn_r _ [32, 1, 5, 3, 4, 33, 6, 7, 8, 9, 10, 11, 12, 13, 14, 15, 16, 2, 17, 18, 19, 20, 21, 22, 23, 24, 25, 26, 27, 28, 34, 35, 36, 37, 38, 39, 40, 41, 42, 43, 44, 45, 46, 47, 48, 49, 50, 51, 52, 53, 54, 55, 56, 57, 58, 59, 60, 61, 62, 63, 64, 65, 66, 67, 68, 69, 70, 71, 72, 73, 74, 75, 76, 77, 78, 79, 80, 81, 82, 83, 84, 85, 86, 87, 88, 89, 90, 91, 92, 93] (by decide +kernel) (by decide +kernel)
set_option maxRecDepth 20000 in
theorem gX10_begins_X10_tries : GoodIn wsX10_begins (wsV RX10 240 RX10 yX10_tries wsX10_tries) := goodIn_app (goodIn_of _ (by decide +kernel)) ggX10_begins_X10_tries
theorem dX10_begins_0 : decode cX10_begins 0 = .ok (.aload_n 0, 1) := by decide +kernel
theorem dX10_begins_1 : decode cX10_begins 1 = .ok (.getfield 54, 3) := by decide +kernel
theorem dX10_begins_4 : decode cX10_begins 4 = .ok (.iload_n 1, 1) := by decide +kernel
theorem dX10_begins_5 : decode cX10_begins 5 = .ok (.iaload, 1) := by decide +kernel
theorem dX10_begins_6 : decode cX10_begins 6 = .ok (.istore_n 2, 1) := by decide +kernel
theorem dX10_begins_7 : decode cX10_begins 7 = .ok (.aload_n 0, 1) := by decide +kernel
theorem dX10_begins_8 : decode cX10_begins 8 = .ok (.getfield 38, 3) := by decide +kernel
theorem dX10_begins_11 : decode cX10_begins 11 = .ok (.iload_n 2, 1) := by decide +kernel
theorem dX10_begins_12 : decode cX10_begins 12 = .ok (.iaload, 1) := by decide +kernel
theorem dX10_begins_13 : decode cX10_begins 13 = .ok (.bipush 7, 2) := by decide +kernel
theorem dX10_begins_15 : decode cX10_begins 15 = .ok (.if_icmp .ne 23, 3) := by decide +kernel
theorem dX10_begins_18 : decode cX10_begins 18 = .ok (.aload_n 0, 1) := by decide +kernel
theorem dX10_begins_19 : decode cX10_begins 19 = .ok (.getfield 57, 3) := by decide +kernel
theorem dX10_begins_22 : decode cX10_begins 22 = .ok (.iload_n 1, 1) := by decide +kernel
theorem dX10_begins_23 : decode cX10_begins 23 = .ok (.iconst 1, 1) := by decide +kernel
theorem dX10_begins_24 : decode cX10_begins 24 = .ok (.iastore, 1) := by decide +kernel
theorem dX10_begins_25 : decode cX10_begins 25 = .ok (.aload_n 0, 1) := by decide +kernel
theorem dX10_begins_26 : decode cX10_begins 26 = .ok (.iload_n 1, 1) := by decide +kernel
theorem dX10_begins_27 : decode cX10_begins 27 = .ok (.aload_n 0, 1) := by decide +kernel
theorem dX10_begins_28 : decode cX10_begins 28 = .ok (.getfield 41, 3) := by decide +kernel
theorem dX10_begins_31 : decode cX10_begins 31 = .ok (.iload_n 2, 1) := by decide +kernel
theorem dX10_begins_32 : decode cX10_begins 32 = .ok (.iaload, 1) := by decide +kernel
theorem dX10_begins_33 : decode cX10_begins 33 = .ok (.invokevirtual 234, 3) := by decide +kernel
theorem dX10_begins_36 : decode cX10_begins 36 = .ok (.iconst 2, 1) := by decide +kernel
theorem dX10_begins_37 : decode cX10_begins 37 = .ok (.ireturn, 1) := by decide +kernel
theorem dX10_begins_38 : decode cX10_begins 38 = .ok (.aload_n 0, 1) := by decide +kernel
theorem dX10_begins_39 : decode cX10_begins 39 = .ok (.iload_n 1, 1) := by decide +kernel
theorem dX10_begins_40 : decode cX10_begins 40 = .ok (.iconst 2, 1) := by decide +kernel
theorem dX10_begins_41 : decode cX10_begins 41 = .ok (.bipush 8, 2) := by decide +kernel
theorem dX10_begins_43 : decode cX10_begins 43 = .ok (.invokevirtual 237, 3) := by decide +kernel
theorem dX10_begins_46 : decode cX10_begins 46 = .ok (.istore_n 3, 1) := by decide +kernel
theorem dX10_begins_47 : decode cX10_begins 47 = .ok (.iload_n 3, 1) := by decide +kernel
theorem dX10_begins_48 : decode cX10_begins 48 = .ok (.bipush (-5), 2) := by decide +kernel
theorem dX10_begins_50 : decode cX10_begins 50 = .ok (.if_icmp .eq 46, 3) := by decide +kernel
theorem dX10_begins_53 : decode cX10_begins 53 = .ok (.aload_n 0, 1) := by decide +kernel
theorem dX10_begins_54 : decode cX10_begins 54 = .ok (.getfield 57, 3) := by decide +kernel
theorem dX10_begins_57 : decode cX10_begins 57 = .ok (.iload_n 1, 1) := by decide +kernel
theorem dX10_begins_58 : decode cX10_begins 58 = .ok (.iconst 2, 1) := by decide +kernel
theorem dX10_begins_59 : decode cX10_begins 59 = .ok (.iastore, 1) := by decide +kernel
theorem dX10_begins_60 : decode cX10_begins 60 = .ok (.aload_n 0, 1) := by decide +kernel
theorem dX10_begins_61 : decode cX10_begins 61 = .ok (.getfield 60, 3) := by decide +kernel
theorem dX10_begins_64 : decode cX10_begins 64 = .ok (.iload_n 1, 1) := by decide +kernel
theorem dX10_begins_65 : decode cX10_begins 65 = .ok (.iload_n 3, 1) := by decide +kernel
theorem dX10_begins_66 : decode cX10_begins 66 = .ok (.iastore, 1) := by decide +kernel
theorem dX10_begins_67 : decode cX10_begins 67 = .ok (.aload_n 0, 1) := by decide +kernel
theorem dX10_begins_68 : decode cX10_begins 68 = .ok (.iload_n 1, 1) := by decide +kernel
theorem dX10_begins_69 : decode cX10_begins 69 = .ok (.iload_n 2, 1) := by decide +kernel
theorem dX10_begins_70 : decode cX10_begins 70 = .ok (.invokevirtual 234, 3) := by decide +kernel
theorem dX10_begins_73 : decode cX10_begins 73 = .ok (.aload_n 0, 1) := by decide +kernel
theorem dX10_begins_74 : decode cX10_begins 74 = .ok (.iload_n 1, 1) := by decide +kernel
theorem dX10_begins_75 : decode cX10_begins 75 = .ok (.iconst 1, 1) := by decide +kernel
theorem dX10_begins_76 : decode cX10_begins 76 = .ok (.iadd, 1) := by decide +kernel
theorem dX10_begins_77 : decode cX10_begins 77 = .ok (.iload_n 3, 1) := by decide +kernel
theorem dX10_begins_78 : decode cX10_begins 78 = .ok (.invokevirtual 221, 3) := by decide +kernel
theorem dX10_begins_81 : decode cX10_begins 81 = .ok (.aload_n 0, 1) := by decide +kernel
theorem dX10_begins_82 : decode cX10_begins 82 = .ok (.iload_n 1, 1) := by decide +kernel
theorem dX10_begins_83 : decode cX10_begins 83 = .ok (.iconst 1, 1) := by decide +kernel
theorem dX10_begins_84 : decode cX10_begins 84 = .ok (.iadd, 1) := by decide +kernel
theorem dX10_begins_85 : decode cX10_begins 85 = .ok (.aload_n 0, 1) := by decide +kernel
theorem dX10_begins_86 : decode cX10_begins 86 = .ok (.getfield 41, 3) := by decide +kernel
theorem dX10_begins_89 : decode cX10_begins 89 = .ok (.iload_n 3, 1) := by decide +kernel
theorem dX10_begins_90 : decode cX10_begins 90 = .ok (.iaload, 1) := by decide +kernel
theorem dX10_begins_91 : decode cX10_begins 91 = .ok (.invokevirtual 225, 3) := by decide +kernel
theorem dX10_begins_94 : decode cX10_begins 94 = .ok (.iconst 2, 1) := by decide +kernel
theorem dX10_begins_95 : decode cX10_begins 95 = .ok (.ireturn, 1) := by decide +kernel
theorem dX10_begins_96 : decode cX10_begins 96 = .ok (.aload_n 0, 1) := by decide +kernel
theorem dX10_begins_97 : decode cX10_begins 97 = .ok (.getfield 60, 3) := by decide +kernel
theorem dX10_begins_100 : decode cX10_begins 100 = .ok (.iload_n 1, 1) := by decide +kernel
theorem dX10_begins_101 : decode cX10_begins 101 = .ok (.aload_n 0, 1) := by decide +kernel
theorem dX10_begins_102 : decode cX10_begins 102 = .ok (.getfield 38, 3) := by decide +kernel
theorem dX10_begins_105 : decode cX10_begins 105 = .ok (.iload_n 2, 1) := by decide +kernel
theorem dX10_begins_106 : decode cX10_begins 106 = .ok (.iaload, 1) := by decide +kernel
theorem dX10_begins_107 : decode cX10_begins 107 = .ok (.bipush 8, 2) := by decide +kernel
theorem dX10_begins_109 : decode cX10_begins 109 = .ok (.if_icmp .ne 8, 3) := by decide +kernel
theorem dX10_begins_112 : decode cX10_begins 112 = .ok (.bipush (-2), 2) := by decide +kernel
theorem dX10_begins_114 : decode cX10_begins 114 = .ok (.goto 4, 3) := by decide +kernel
theorem dX10_begins_117 : decode cX10_begins 117 = .ok (.iconst 0, 1) := by decide +kernel
theorem dX10_begins_118 : decode cX10_begins 118 = .ok (.iastore, 1) := by decide +kernel
theorem dX10_begins_119 : decode cX10_begins 119 = .ok (.aload_n 0, 1) := by decide +kernel
theorem dX10_begins_120 : decode cX10_begins 120 = .ok (.iload_n 1, 1) := by decide +kernel
theorem dX10_begins_121 : decode cX10_begins 121 = .ok (.invokevirtual 240, 3) := by decide +kernel
theorem dX10_begins_124 : decode cX10_begins 124 = .ok (.ireturn, 1) := by decide +kernel
set_option maxRecDepth 20000 in
theorem ggX10_tries_X10_leadsOn : GoodIn wsX10_tries wsX10_leadsOn := goodIn_r _ [10, 11, 1, 3, 65, 66, 67, 68, 69, 70, 71, 72, 73, 74, 75, 76, 77, 78, 79, 80, 81, 82, 83, 84, 85, 86, 87, 88, 89] (by decide +kernel) (by decide +kernel)
set_option maxRecDepth 20000 in
theorem gX10_tries_X10_leadsOn : GoodIn wsX10_tries (wsV RX10 234 RX10 yX10_leadsOn wsX10_leadsOn) := goodIn_app (goodIn_of _ (by decide +kernel)) ggX10_tries_X10_leadsOn
set_option maxRecDepth 20000 in
theorem ggX10_tries_X10_next : GoodIn wsX10_tries wsX10_next := goodIn_r _ [15, 16, 17, 4, 18, 19, 20, 9, 21, 11, 65, 66, 67, 68, 69, 70, 71, 72, 73, 74, 75, 76, 77, 78, 79, 80, 81, 82, 83, 84, 85, 86, 87, 88, 89] (by decide +kernel) (by decide +kernel)
set_option maxRecDepth 20000 in
theorem gX10_tries_X10_next : GoodIn wsX10_tries (wsV RX10 237 RX10 yX10_next wsX10_next) := goodIn_app (goodIn_of _ (by decide +kernel)) ggX10_tries_X10_next
set_option maxRecDepth 20000 in
theorem ggX10_tries_X10_loses : GoodIn wsX10_tries wsX10_loses := goodIn_r _ [25, 11, 65, 66, 67, 68, 69, 70, 71, 72, 73, 74, 75, 76, 77, 78, 79, 80, 81, 82, 83, 84, 85, 86, 87, 88, 89] (by decide +kernel) (by decide +kernel)
set_option maxRecDepth 20000 in
theorem gX10_tries_X10_loses : GoodIn wsX10_tries (wsV RX10 221 RX10 yX10_loses wsX10_loses) := goodIn_app (goodIn_of _ (by decide +kernel)) ggX10_tries_X10_loses
set_option maxRecDepth 20000 in
theorem ggX10_tries_X10_gets : GoodIn wsX10_tries wsX10_gets := goodIn_r _ [29, 11, 65, 66, 67, 68, 69, 70, 71, 72, 73, 74, 75, 76, 77, 78, 79, 80, 81, 82, 83, 84, 85, 86, 87, 88, 89] (by decide +kernel) (by decide +kernel)
set_option maxRecDepth 20000 in
theorem gX10_tries_X10_gets : GoodIn wsX10_tries (wsV RX10 225 RX10 yX10_gets wsX10_gets) := goodIn_app (goodIn_of _ (by decide +kernel)) ggX10_tries_X10_gets
set_option maxRecDepth 20000 in
theorem ggX10_tries_X10_implies : GoodIn wsX10_tries wsX10_implies := goodIn_r _ [33, 34, 35, 36, 9, 37, 16, 17, 4, 5, 38, 39, 40, 41, 42, 43, 44, 45, 46, 47, 48, 49, 50, 51, 52, 53, 54, 55, 56, 57, 58, 59, 60, 61, 62, 63, 64, 65, 66, 67, 68, 69, 70, 71, 72, 73, 74, 75, 76, 77, 78, 79, 80, 81, 82, 83, 84, 85, 86, 87, 88, 89] (by decide +kernel) (by decide +kernel)
set_option maxRecDepth 20000 in
theorem gX10_tries_X10_implies : GoodIn wsX10_tries (wsV RX10 205 RX10 yX10_implies wsX10_implies) := goodIn_app (goodIn_of _ (by decide +kernel)) ggX10_tries_X10_implies
theorem dX10_tries_0 : decode cX10_tries 0 = .ok (.aload_n 0, 1) := by decide +kernel
theorem dX10_tries_1 : decode cX10_tries 1 = .ok (.getfield 54, 3) := by decide +kernel
theorem dX10_tries_4 : decode cX10_tries 4 = .ok (.iload_n 1, 1) := by decide +kernel
theorem dX10_tries_5 : decode cX10_tries 5 = .ok (.iaload, 1) := by decide +kernel
theorem dX10_tries_6 : decode cX10_tries 6 = .ok (.istore_n 2, 1) := by decide +kernel
theorem dX10_tries_7 : decode cX10_tries 7 = .ok (.aload_n 0, 1) := by decide +kernel
theorem dX10_tries_8 : decode cX10_tries 8 = .ok (.getfield 60, 3) := by decide +kernel
theorem dX10_tries_11 : decode cX10_tries 11 = .ok (.iload_n 1, 1) := by decide +kernel
theorem dX10_tries_12 : decode cX10_tries 12 = .ok (.iaload, 1) := by decide +kernel
theorem dX10_tries_13 : decode cX10_tries 13 = .ok (.ifCond .ge 53, 3) := by decide +kernel
theorem dX10_tries_16 : decode cX10_tries 16 = .ok (.aload_n 0, 1) := by decide +kernel
theorem dX10_tries_17 : decode cX10_tries 17 = .ok (.getfield 57, 3) := by decide +kernel
theorem dX10_tries_20 : decode cX10_tries 20 = .ok (.iload_n 1, 1) := by decide +kernel
theorem dX10_tries_21 : decode cX10_tries 21 = .ok (.iconst 3, 1) := by decide +kernel
theorem dX10_tries_22 : decode cX10_tries 22 = .ok (.iastore, 1) := by decide +kernel
theorem dX10_tries_23 : decode cX10_tries 23 = .ok (.aload_n 0, 1) := by decide +kernel
theorem dX10_tries_24 : decode cX10_tries 24 = .ok (.iload_n 1, 1) := by decide +kernel
theorem dX10_tries_25 : decode cX10_tries 25 = .ok (.aload_n 0, 1) := by decide +kernel
theorem dX10_tries_26 : decode cX10_tries 26 = .ok (.getfield 60, 3) := by decide +kernel
theorem dX10_tries_29 : decode cX10_tries 29 = .ok (.iload_n 1, 1) := by decide +kernel
theorem dX10_tries_30 : decode cX10_tries 30 = .ok (.iaload, 1) := by decide +kernel
theorem dX10_tries_31 : decode cX10_tries 31 = .ok (.bipush (-2), 2) := by decide +kernel
theorem dX10_tries_33 : decode cX10_tries 33 = .ok (.if_icmp .ne 12, 3) := by decide +kernel
theorem dX10_tries_36 : decode cX10_tries 36 = .ok (.aload_n 0, 1) := by decide +kernel
theorem dX10_tries_37 : decode cX10_tries 37 = .ok (.getfield 41, 3) := by decide +kernel
theorem dX10_tries_40 : decode cX10_tries 40 = .ok (.iload_n 2, 1) := by decide +kernel
theorem dX10_tries_41 : decode cX10_tries 41 = .ok (.iaload, 1) := by decide +kernel
theorem dX10_tries_42 : decode cX10_tries 42 = .ok (.goto 9, 3) := by decide +kernel
theorem dX10_tries_45 : decode cX10_tries 45 = .ok (.aload_n 0, 1) := by decide +kernel
theorem dX10_tries_46 : decode cX10_tries 46 = .ok (.getfield 44, 3) := by decide +kernel
theorem dX10_tries_49 : decode cX10_tries 49 = .ok (.iload_n 2, 1) := by decide +kernel
theorem dX10_tries_50 : decode cX10_tries 50 = .ok (.iaload, 1) := by decide +kernel
theorem dX10_tries_51 : decode cX10_tries 51 = .ok (.invokevirtual 234, 3) := by decide +kernel
theorem dX10_tries_54 : decode cX10_tries 54 = .ok (.aload_n 0, 1) := by decide +kernel
theorem dX10_tries_55 : decode cX10_tries 55 = .ok (.getfield 60, 3) := by decide +kernel
theorem dX10_tries_58 : decode cX10_tries 58 = .ok (.iload_n 1, 1) := by decide +kernel
theorem dX10_tries_59 : decode cX10_tries 59 = .ok (.dup2, 1) := by decide +kernel
theorem dX10_tries_60 : decode cX10_tries 60 = .ok (.iaload, 1) := by decide +kernel
theorem dX10_tries_61 : decode cX10_tries 61 = .ok (.iconst 1, 1) := by decide +kernel
theorem dX10_tries_62 : decode cX10_tries 62 = .ok (.iadd, 1) := by decide +kernel
theorem dX10_tries_63 : decode cX10_tries 63 = .ok (.iastore, 1) := by decide +kernel
theorem dX10_tries_64 : decode cX10_tries 64 = .ok (.iconst 2, 1) := by decide +kernel
theorem dX10_tries_65 : decode cX10_tries 65 = .ok (.ireturn, 1) := by decide +kernel
theorem dX10_tries_66 : decode cX10_tries 66 = .ok (.aload_n 0, 1) := by decide +kernel
theorem dX10_tries_67 : decode cX10_tries 67 = .ok (.iload_n 1, 1) := by decide +kernel
theorem dX10_tries_68 : decode cX10_tries 68 = .ok (.aload_n 0, 1) := by decide +kernel
theorem dX10_tries_69 : decode cX10_tries 69 = .ok (.getfield 60, 3) := by decide +kernel
theorem dX10_tries_72 : decode cX10_tries 72 = .ok (.iload_n 1, 1) := by decide +kernel
theorem dX10_tries_73 : decode cX10_tries 73 = .ok (.iaload, 1) := by decide +kernel
theorem dX10_tries_74 : decode cX10_tries 74 = .ok (.bipush 9, 2) := by decide +kernel
theorem dX10_tries_76 : decode cX10_tries 76 = .ok (.invokevirtual 237, 3) := by decide +kernel
theorem dX10_tries_79 : decode cX10_tries 79 = .ok (.istore_n 3, 1) := by decide +kernel
theorem dX10_tries_80 : decode cX10_tries 80 = .ok (.iload_n 3, 1) := by decide +kernel
theorem dX10_tries_81 : decode cX10_tries 81 = .ok (.bipush (-5), 2) := by decide +kernel
theorem dX10_tries_83 : decode cX10_tries 83 = .ok (.if_icmp .ne 5, 3) := by decide +kernel
theorem dX10_tries_86 : decode cX10_tries 86 = .ok (.iconst 0, 1) := by decide +kernel
theorem dX10_tries_87 : decode cX10_tries 87 = .ok (.ireturn, 1) := by decide +kernel
theorem dX10_tries_88 : decode cX10_tries 88 = .ok (.aload_n 0, 1) := by decide +kernel
theorem dX10_tries_89 : decode cX10_tries 89 = .ok (.getfield 57, 3) := by decide +kernel
theorem dX10_tries_92 : decode cX10_tries 92 = .ok (.iload_n 1, 1) := by decide +kernel
theorem dX10_tries_93 : decode cX10_tries 93 = .ok (.iconst 4, 1) := by decide +kernel
theorem dX10_tries_94 : decode cX10_tries 94 = .ok (.iastore, 1) := by decide +kernel
theorem dX10_tries_95 : decode cX10_tries 95 = .ok (.aload_n 0, 1) := by decide +kernel
theorem dX10_tries_96 : decode cX10_tries 96 = .ok (.getfield 60, 3) := by decide +kernel
theorem dX10_tries_99 : decode cX10_tries 99 = .ok (.iload_n 1, 1) := by decide +kernel
theorem dX10_tries_100 : decode cX10_tries 100 = .ok (.iload_n 3, 1) := by decide +kernel
theorem dX10_tries_101 : decode cX10_tries 101 = .ok (.iconst 1, 1) := by decide +kernel
theorem dX10_tries_102 : decode cX10_tries 102 = .ok (.iadd, 1) := by decide +kernel
theorem dX10_tries_103 : decode cX10_tries 103 = .ok (.iastore, 1) := by decide +kernel
theorem dX10_tries_104 : decode cX10_tries 104 = .ok (.aload_n 0, 1) := by decide +kernel
theorem dX10_tries_105 : decode cX10_tries 105 = .ok (.getfield 41, 3) := by decide +kernel
theorem dX10_tries_108 : decode cX10_tries 108 = .ok (.iload_n 3, 1) := by decide +kernel
theorem dX10_tries_109 : decode cX10_tries 109 = .ok (.iaload, 1) := by decide +kernel
theorem dX10_tries_110 : decode cX10_tries 110 = .ok (.istore 4, 2) := by decide +kernel
theorem dX10_tries_112 : decode cX10_tries 112 = .ok (.aload_n 0, 1) := by decide +kernel
theorem dX10_tries_113 : decode cX10_tries 113 = .ok (.iload_n 1, 1) := by decide +kernel
theorem dX10_tries_114 : decode cX10_tries 114 = .ok (.aload_n 0, 1) := by decide +kernel
theorem dX10_tries_115 : decode cX10_tries 115 = .ok (.getfield 44, 3) := by decide +kernel
theorem dX10_tries_118 : decode cX10_tries 118 = .ok (.iload 4, 2) := by decide +kernel
theorem dX10_tries_120 : decode cX10_tries 120 = .ok (.iaload, 1) := by decide +kernel
theorem dX10_tries_121 : decode cX10_tries 121 = .ok (.invokevirtual 234, 3) := by decide +kernel
theorem dX10_tries_124 : decode cX10_tries 124 = .ok (.aload_n 0, 1) := by decide +kernel
theorem dX10_tries_125 : decode cX10_tries 125 = .ok (.iload_n 1, 1) := by decide +kernel
theorem dX10_tries_126 : decode cX10_tries 126 = .ok (.iconst 1, 1) := by decide +kernel
theorem dX10_tries_127 : decode cX10_tries 127 = .ok (.iadd, 1) := by decide +kernel
theorem dX10_tries_128 : decode cX10_tries 128 = .ok (.iload_n 3, 1) := by decide +kernel
theorem dX10_tries_129 : decode cX10_tries 129 = .ok (.invokevirtual 221, 3) := by decide +kernel
theorem dX10_tries_132 : decode cX10_tries 132 = .ok (.aload_n 0, 1) := by decide +kernel
theorem dX10_tries_133 : decode cX10_tries 133 = .ok (.iload_n 1, 1) := by decide +kernel
theorem dX10_tries_134 : decode cX10_tries 134 = .ok (.iconst 1, 1) := by decide +kernel
theorem dX10_tries_135 : decode cX10_tries 135 = .ok (.iadd, 1) := by decide +kernel
theorem dX10_tries_136 : decode cX10_tries 136 = .ok (.aload_n 0, 1) := by decide +kernel
theorem dX10_tries_137 : decode cX10_tries 137 = .ok (.getfield 41, 3) := by decide +kernel
theorem dX10_tries_140 : decode cX10_tries 140 = .ok (.iload 4, 2) := by decide +kernel
theorem dX10_tries_142 : decode cX10_tries 142 = .ok (.iaload, 1) := by decide +kernel
theorem dX10_tries_143 : decode cX10_tries 143 = .ok (.invokevirtual 225, 3) := by decide +kernel
theorem dX10_tries_146 : decode cX10_tries 146 = .ok (.aload_n 0, 1) := by decide +kernel
theorem dX10_tries_147 : decode cX10_tries 147 = .ok (.iload_n 1, 1) := by decide +kernel
theorem dX10_tries_148 : decode cX10_tries 148 = .ok (.iconst 1, 1) := by decide +kernel
theorem dX10_tries_149 : decode cX10_tries 149 = .ok (.iadd, 1) := by decide +kernel
theorem dX10_tries_150 : decode cX10_tries 150 = .ok (.aload_n 0, 1) := by decide +kernel
theorem dX10_tries_151 : decode cX10_tries 151 = .ok (.aload_n 0, 1) := by decide +kernel
theorem dX10_tries_152 : decode cX10_tries 152 = .ok (.getfield 44, 3) := by decide +kernel
theorem dX10_tries_155 : decode cX10_tries 155 = .ok (.iload 4, 2) := by decide +kernel
theorem dX10_tries_157 : decode cX10_tries 157 = .ok (.iaload, 1) := by decide +kernel
theorem dX10_tries_158 : decode cX10_tries 158 = .ok (.aload_n 0, 1) := by decide +kernel
theorem dX10_tries_159 : decode cX10_tries 159 = .ok (.getfield 44, 3) := by decide +kernel
theorem dX10_tries_162 : decode cX10_tries 162 = .ok (.iload_n 3, 1) := by decide +kernel
theorem dX10_tries_163 : decode cX10_tries 163 = .ok (.iaload, 1) := by decide +kernel
theorem dX10_tries_164 : decode cX10_tries 164 = .ok (.invokevirtual 205, 3) := by decide +kernel
theorem dX10_tries_167 : decode cX10_tries 167 = .ok (.invokevirtual 225, 3) := by decide +kernel
theorem dX10_tries_170 : decode cX10_tries 170 = .ok (.iconst 2, 1) := by decide +kernel
theorem dX10_tries_171 : decode cX10_tries 171 = .ok (.ireturn, 1) := by decide +kernel
set_option maxRecDepth 20000 in
theorem ggX10_goesOn_X10_tries : GoodIn wsX10_goesOn wsX10_tries := goodIn_r _ [9, 1, 4, 2, 10, 3, 11, 12, 13, 8, 14, 15, 16, 17, 18, 19, 20, 21, 22, 23, 24, 25, 26, 27, 28, 29, 30, 31, 32, 33, 34, 35, 36, 37, 38, 39, 40, 41, 42, 43, 44, 45, 46, 47, 48, 49, 50, 51, 52, 53, 54, 55, 56, 57, 58, 59, 60, 61, 62, 63, 64, 65, 66, 67, 68, 69, 70, 71, 72, 73, 74, 75, 76, 77, 78, 79, 80, 81, 82, 83, 84, 85, 86, 87, 88, 89, 90, 91, 92, 93] (by decide +kernel) (by decide +kernel)
set_option maxRecDepth 20000 in
theorem gX10_goesOn_X10_tries : GoodIn wsX10_goesOn (wsV RX10 240 RX10 yX10_tries wsX10_tries) := goodIn_app (goodIn_of _ (by decide +kernel)) ggX10_goesOn_X10_tries
set_option maxRecDepth 20000 in
theorem ggX10_goesOn_X10_leadsOn : GoodIn wsX10_goesOn wsX10_leadsOn := goodIn_r _ [14, 15, 1, 2, 69, 70, 71, 72, 73, 74, 75, 76, 77, 78, 79, 80, 81, 82, 83, 84, 85, 86, 87, 88, 89, 90, 91, 92, 93] (by decide +kernel) (by decide +kernel)
set_option maxRecDepth 20000 in
theorem gX10_goesOn_X10_leadsOn : GoodIn wsX10_goesOn (wsV RX10 234 RX10 yX10_leadsOn wsX10_leadsOn) := goodIn_app (goodIn_of _ (by decide +kernel)) ggX10_goesOn_X10_leadsOn
set_option maxRecDepth 20000 in
theorem ggX10_goesOn_X10_loses : GoodIn wsX10_goesOn wsX10_loses := goodIn_r _ [29, 15, 69, 70, 71, 72, 73, 74, 75, 76, 77, 78, 79, 80, 81, 82, 83, 84, 85, 86, 87, 88, 89, 90, 91, 92, 93] (by decide +kernel) (by decide +kernel)
set_option maxRecDepth 20000 in
theorem gX10_goesOn_X10_loses : GoodIn wsX10_goesOn (wsV RX10 221 RX10 yX10_loses wsX10_loses) := goodIn_app (goodIn_of _ (by decide +kernel)) ggX10_goesOn_X10_loses
set_option maxRecDepth 20000 in
theorem ggX10_goesOn_X10_gets : GoodIn wsX10_goesOn wsX10_gets := goodIn_r _ [33, 15, 69, 70, 71, 72, 73, 74, 75, 76, 77, 78, 79, 80, 81, 82, 83, 84, 85, 86, 87, 88, 89, 90, 91, 92, 93] (by decide +kernel) (by decide +kernel)
set_option maxRecDepth 20000 in
theorem gX10_goesOn_X10_gets : GoodIn wsX10_goesOn (wsV RX10 225 RX10 yX10_gets wsX10_gets) := goodIn_app (goodIn_of _ (by decide +kernel)) ggX10_goesOn_X10_gets
theorem dX10_goesOn_0 : decode cX10_goesOn 0 = .ok (.aload_n 0, 1) := by decide +kernel
theorem dX10_goesOn_1 : decode cX10_goesOn 1 = .ok (.getfield 54, 3) := by decide +kernel
theorem dX10_goesOn_4 : decode cX10_goesOn 4 = .ok (.iload_n 1, 1) := by decide +kernel
theorem dX10_goesOn_5 : decode cX10_goesOn 5 = .ok (.iaload, 1) := by decide +kernel
theorem dX10_goesOn_6 : decode cX10_goesOn 6 = .ok (.istore_n 3, 1) := by decide +kernel
theorem dX10_goesOn_7 : decode cX10_goesOn 7 = .ok (.aload_n 0, 1) := by decide +kernel
theorem dX10_goesOn_8 : decode cX10_goesOn 8 = .ok (.getfield 57, 3) := by decide +kernel
theorem dX10_goesOn_11 : decode cX10_goesOn 11 = .ok (.iload_n 1, 1) := by decide +kernel
theorem dX10_goesOn_12 : decode cX10_goesOn 12 = .ok (.iaload, 1) := by decide +kernel
theorem dX10_goesOn_13 : decode cX10_goesOn 13 = .ok (.iconst 5, 1) := by decide +kernel
theorem dX10_goesOn_14 : decode cX10_goesOn 14 = .ok (.if_icmp .ne 5, 3) := by decide +kernel
theorem dX10_goesOn_17 : decode cX10_goesOn 17 = .ok (.iload_n 2, 1) := by decide +kernel
theorem dX10_goesOn_18 : decode cX10_goesOn 18 = .ok (.ireturn, 1) := by decide +kernel
theorem dX10_goesOn_19 : decode cX10_goesOn 19 = .ok (.aload_n 0, 1) := by decide +kernel
theorem dX10_goesOn_20 : decode cX10_goesOn 20 = .ok (.getfield 57, 3) := by decide +kernel
theorem dX10_goesOn_23 : decode cX10_goesOn 23 = .ok (.iload_n 1, 1) := by decide +kernel
theorem dX10_goesOn_24 : decode cX10_goesOn 24 = .ok (.iaload, 1) := by decide +kernel
theorem dX10_goesOn_25 : decode cX10_goesOn 25 = .ok (.iconst 3, 1) := by decide +kernel
theorem dX10_goesOn_26 : decode cX10_goesOn 26 = .ok (.if_icmp .ne 18, 3) := by decide +kernel
theorem dX10_goesOn_29 : decode cX10_goesOn 29 = .ok (.iload_n 2, 1) := by decide +kernel
theorem dX10_goesOn_30 : decode cX10_goesOn 30 = .ok (.iconst 1, 1) := by decide +kernel
theorem dX10_goesOn_31 : decode cX10_goesOn 31 = .ok (.if_icmp .ne 7, 3) := by decide +kernel
theorem dX10_goesOn_34 : decode cX10_goesOn 34 = .ok (.iconst 1, 1) := by decide +kernel
theorem dX10_goesOn_35 : decode cX10_goesOn 35 = .ok (.goto 8, 3) := by decide +kernel
theorem dX10_goesOn_38 : decode cX10_goesOn 38 = .ok (.aload_n 0, 1) := by decide +kernel
theorem dX10_goesOn_39 : decode cX10_goesOn 39 = .ok (.iload_n 1, 1) := by decide +kernel
theorem dX10_goesOn_40 : decode cX10_goesOn 40 = .ok (.invokevirtual 240, 3) := by decide +kernel
theorem dX10_goesOn_43 : decode cX10_goesOn 43 = .ok (.ireturn, 1) := by decide +kernel
theorem dX10_goesOn_44 : decode cX10_goesOn 44 = .ok (.iload_n 2, 1) := by decide +kernel
theorem dX10_goesOn_45 : decode cX10_goesOn 45 = .ok (.ifCond .ne 23, 3) := by decide +kernel
theorem dX10_goesOn_48 : decode cX10_goesOn 48 = .ok (.aload_n 0, 1) := by decide +kernel
theorem dX10_goesOn_49 : decode cX10_goesOn 49 = .ok (.getfield 57, 3) := by decide +kernel
theorem dX10_goesOn_52 : decode cX10_goesOn 52 = .ok (.iload_n 1, 1) := by decide +kernel
theorem dX10_goesOn_53 : decode cX10_goesOn 53 = .ok (.iaload, 1) := by decide +kernel
theorem dX10_goesOn_54 : decode cX10_goesOn 54 = .ok (.iconst 4, 1) := by decide +kernel
theorem dX10_goesOn_55 : decode cX10_goesOn 55 = .ok (.if_icmp .ne 11, 3) := by decide +kernel
theorem dX10_goesOn_58 : decode cX10_goesOn 58 = .ok (.aload_n 0, 1) := by decide +kernel
theorem dX10_goesOn_59 : decode cX10_goesOn 59 = .ok (.iload_n 1, 1) := by decide +kernel
theorem dX10_goesOn_60 : decode cX10_goesOn 60 = .ok (.invokevirtual 240, 3) := by decide +kernel
theorem dX10_goesOn_63 : decode cX10_goesOn 63 = .ok (.goto 4, 3) := by decide +kernel
theorem dX10_goesOn_66 : decode cX10_goesOn 66 = .ok (.iconst 0, 1) := by decide +kernel
theorem dX10_goesOn_67 : decode cX10_goesOn 67 = .ok (.ireturn, 1) := by decide +kernel
theorem dX10_goesOn_68 : decode cX10_goesOn 68 = .ok (.aload_n 0, 1) := by decide +kernel
theorem dX10_goesOn_69 : decode cX10_goesOn 69 = .ok (.getfield 57, 3) := by decide +kernel
theorem dX10_goesOn_72 : decode cX10_goesOn 72 = .ok (.iload_n 1, 1) := by decide +kernel
theorem dX10_goesOn_73 : decode cX10_goesOn 73 = .ok (.iaload, 1) := by decide +kernel
theorem dX10_goesOn_74 : decode cX10_goesOn 74 = .ok (.iconst 1, 1) := by decide +kernel
theorem dX10_goesOn_75 : decode cX10_goesOn 75 = .ok (.if_icmp .ne 17, 3) := by decide +kernel
theorem dX10_goesOn_78 : decode cX10_goesOn 78 = .ok (.aload_n 0, 1) := by decide +kernel
theorem dX10_goesOn_79 : decode cX10_goesOn 79 = .ok (.iload_n 1, 1) := by decide +kernel
theorem dX10_goesOn_80 : decode cX10_goesOn 80 = .ok (.aload_n 0, 1) := by decide +kernel
theorem dX10_goesOn_81 : decode cX10_goesOn 81 = .ok (.getfield 44, 3) := by decide +kernel
theorem dX10_goesOn_84 : decode cX10_goesOn 84 = .ok (.iload_n 3, 1) := by decide +kernel
theorem dX10_goesOn_85 : decode cX10_goesOn 85 = .ok (.iaload, 1) := by decide +kernel
theorem dX10_goesOn_86 : decode cX10_goesOn 86 = .ok (.invokevirtual 234, 3) := by decide +kernel
theorem dX10_goesOn_89 : decode cX10_goesOn 89 = .ok (.goto 92, 3) := by decide +kernel
theorem dX10_goesOn_92 : decode cX10_goesOn 92 = .ok (.aload_n 0, 1) := by decide +kernel
theorem dX10_goesOn_93 : decode cX10_goesOn 93 = .ok (.getfield 57, 3) := by decide +kernel
theorem dX10_goesOn_96 : decode cX10_goesOn 96 = .ok (.iload_n 1, 1) := by decide +kernel
theorem dX10_goesOn_97 : decode cX10_goesOn 97 = .ok (.iaload, 1) := by decide +kernel
theorem dX10_goesOn_98 : decode cX10_goesOn 98 = .ok (.iconst 2, 1) := by decide +kernel
theorem dX10_goesOn_99 : decode cX10_goesOn 99 = .ok (.if_icmp .ne 43, 3) := by decide +kernel
theorem dX10_goesOn_102 : decode cX10_goesOn 102 = .ok (.aload_n 0, 1) := by decide +kernel
theorem dX10_goesOn_103 : decode cX10_goesOn 103 = .ok (.iload_n 1, 1) := by decide +kernel
theorem dX10_goesOn_104 : decode cX10_goesOn 104 = .ok (.iload_n 3, 1) := by decide +kernel
theorem dX10_goesOn_105 : decode cX10_goesOn 105 = .ok (.invokevirtual 234, 3) := by decide +kernel
theorem dX10_goesOn_108 : decode cX10_goesOn 108 = .ok (.aload_n 0, 1) := by decide +kernel
theorem dX10_goesOn_109 : decode cX10_goesOn 109 = .ok (.iload_n 1, 1) := by decide +kernel
theorem dX10_goesOn_110 : decode cX10_goesOn 110 = .ok (.iconst 1, 1) := by decide +kernel
theorem dX10_goesOn_111 : decode cX10_goesOn 111 = .ok (.iadd, 1) := by decide +kernel
theorem dX10_goesOn_112 : decode cX10_goesOn 112 = .ok (.aload_n 0, 1) := by decide +kernel
theorem dX10_goesOn_113 : decode cX10_goesOn 113 = .ok (.getfield 60, 3) := by decide +kernel
theorem dX10_goesOn_116 : decode cX10_goesOn 116 = .ok (.iload_n 1, 1) := by decide +kernel
theorem dX10_goesOn_117 : decode cX10_goesOn 117 = .ok (.iaload, 1) := by decide +kernel
theorem dX10_goesOn_118 : decode cX10_goesOn 118 = .ok (.invokevirtual 221, 3) := by decide +kernel
theorem dX10_goesOn_121 : decode cX10_goesOn 121 = .ok (.aload_n 0, 1) := by decide +kernel
theorem dX10_goesOn_122 : decode cX10_goesOn 122 = .ok (.iload_n 1, 1) := by decide +kernel
theorem dX10_goesOn_123 : decode cX10_goesOn 123 = .ok (.iconst 1, 1) := by decide +kernel
theorem dX10_goesOn_124 : decode cX10_goesOn 124 = .ok (.iadd, 1) := by decide +kernel
theorem dX10_goesOn_125 : decode cX10_goesOn 125 = .ok (.aload_n 0, 1) := by decide +kernel
theorem dX10_goesOn_126 : decode cX10_goesOn 126 = .ok (.getfield 44, 3) := by decide +kernel
theorem dX10_goesOn_129 : decode cX10_goesOn 129 = .ok (.aload_n 0, 1) := by decide +kernel
theorem dX10_goesOn_130 : decode cX10_goesOn 130 = .ok (.getfield 60, 3) := by decide +kernel
theorem dX10_goesOn_133 : decode cX10_goesOn 133 = .ok (.iload_n 1, 1) := by decide +kernel
theorem dX10_goesOn_134 : decode cX10_goesOn 134 = .ok (.iaload, 1) := by decide +kernel
theorem dX10_goesOn_135 : decode cX10_goesOn 135 = .ok (.iaload, 1) := by decide +kernel
theorem dX10_goesOn_136 : decode cX10_goesOn 136 = .ok (.invokevirtual 225, 3) := by decide +kernel
theorem dX10_goesOn_139 : decode cX10_goesOn 139 = .ok (.goto 42, 3) := by decide +kernel
theorem dX10_goesOn_142 : decode cX10_goesOn 142 = .ok (.aload_n 0, 1) := by decide +kernel
theorem dX10_goesOn_143 : decode cX10_goesOn 143 = .ok (.getfield 60, 3) := by decide +kernel
theorem dX10_goesOn_146 : decode cX10_goesOn 146 = .ok (.iload_n 1, 1) := by decide +kernel
theorem dX10_goesOn_147 : decode cX10_goesOn 147 = .ok (.iaload, 1) := by decide +kernel
theorem dX10_goesOn_148 : decode cX10_goesOn 148 = .ok (.iconst 1, 1) := by decide +kernel
theorem dX10_goesOn_149 : decode cX10_goesOn 149 = .ok (.isub, 1) := by decide +kernel
theorem dX10_goesOn_150 : decode cX10_goesOn 150 = .ok (.istore 4, 2) := by decide +kernel
theorem dX10_goesOn_152 : decode cX10_goesOn 152 = .ok (.aload_n 0, 1) := by decide +kernel
theorem dX10_goesOn_153 : decode cX10_goesOn 153 = .ok (.iload_n 1, 1) := by decide +kernel
theorem dX10_goesOn_154 : decode cX10_goesOn 154 = .ok (.iload_n 3, 1) := by decide +kernel
theorem dX10_goesOn_155 : decode cX10_goesOn 155 = .ok (.invokevirtual 234, 3) := by decide +kernel
theorem dX10_goesOn_158 : decode cX10_goesOn 158 = .ok (.aload_n 0, 1) := by decide +kernel
theorem dX10_goesOn_159 : decode cX10_goesOn 159 = .ok (.iload_n 1, 1) := by decide +kernel
theorem dX10_goesOn_160 : decode cX10_goesOn 160 = .ok (.iconst 1, 1) := by decide +kernel
theorem dX10_goesOn_161 : decode cX10_goesOn 161 = .ok (.iadd, 1) := by decide +kernel
theorem dX10_goesOn_162 : decode cX10_goesOn 162 = .ok (.iload 4, 2) := by decide +kernel
theorem dX10_goesOn_164 : decode cX10_goesOn 164 = .ok (.invokevirtual 221, 3) := by decide +kernel
theorem dX10_goesOn_167 : decode cX10_goesOn 167 = .ok (.aload_n 0, 1) := by decide +kernel
theorem dX10_goesOn_168 : decode cX10_goesOn 168 = .ok (.iload_n 1, 1) := by decide +kernel
theorem dX10_goesOn_169 : decode cX10_goesOn 169 = .ok (.iconst 1, 1) := by decide +kernel
theorem dX10_goesOn_170 : decode cX10_goesOn 170 = .ok (.iadd, 1) := by decide +kernel
theorem dX10_goesOn_171 : decode cX10_goesOn 171 = .ok (.aload_n 0, 1) := by decide +kernel
theorem dX10_goesOn_172 : decode cX10_goesOn 172 = .ok (.getfield 44, 3) := by decide +kernel
theorem dX10_goesOn_175 : decode cX10_goesOn 175 = .ok (.iload 4, 2) := by decide +kernel
theorem dX10_goesOn_177 : decode cX10_goesOn 177 = .ok (.iaload, 1) := by decide +kernel
theorem dX10_goesOn_178 : decode cX10_goesOn 178 = .ok (.invokevirtual 225, 3) := by decide +kernel
theorem dX10_goesOn_181 : decode cX10_goesOn 181 = .ok (.aload_n 0, 1) := by decide +kernel
theorem dX10_goesOn_182 : decode cX10_goesOn 182 = .ok (.getfield 57, 3) := by decide +kernel
theorem dX10_goesOn_185 : decode cX10_goesOn 185 = .ok (.iload_n 1, 1) := by decide +kernel
theorem dX10_goesOn_186 : decode cX10_goesOn 186 = .ok (.iconst 5, 1) := by decide +kernel
theorem dX10_goesOn_187 : decode cX10_goesOn 187 = .ok (.iastore, 1) := by decide +kernel
theorem dX10_goesOn_188 : decode cX10_goesOn 188 = .ok (.iconst 2, 1) := by decide +kernel
theorem dX10_goesOn_189 : decode cX10_goesOn 189 = .ok (.ireturn, 1) := by decide +kernel
set_option maxRecDepth 20000 in
theorem ggX10_isShown_X10_goesOn : GoodIn wsX10_isShown wsX10_goesOn := goodIn_r _ [6, 7, 1, 8, 9, 10, 11, 12, 5, 13, 14, 15, 16, 17, 18, 19, 20, 21, 22, 23, 24, 25, 26, 27, 28, 29, 30, 31, 32, 33, 34, 35, 36, 37, 38, 39, 40, 41, 42, 43, 44, 45, 46, 47, 48, 49, 50, 51, 52, 53, 54, 55, 56, 57, 58, 59, 60, 61, 62, 63, 64, 65, 66, 67, 68, 69, 70, 71, 72, 93, 94, 95, 96, 97, 98, 99, 100, 101, 102, 103, 104, 105, 106, 107, 108, 109, 110, 111, 112, 113, 114, 115, 116, 117] (by decide +kernel) (by decide +kernel)
set_option maxRecDepth 20000 in
theorem gX10_isShown_X10_goesOn : GoodIn wsX10_isShown (wsV RX10 243 RX10 yX10_goesOn wsX10_goesOn) := goodIn_app (goodIn_of _ (by decide +kernel)) ggX10_isShown_X10_goesOn
set_option maxRecDepth 20000 in
theorem ggX10_isShown_X10_settles : GoodIn wsX10_isShown wsX10_settles := goodIn_r _ [76, 25, 7, 14, 8, 24, 30, 31, 32, 5, 33, 19, 34, 35, 36, 37, 26, 27, 28, 29, 77, 78, 79, 80, 38, 39, 40, 41, 42, 43, 44, 45, 46, 47, 48, 49, 50, 51, 52, 53, 54, 55, 56, 57, 58, 59, 60, 61, 62, 63, 64, 65, 66, 67, 68, 69, 70, 71, 72, 81, 82, 83, 84, 85, 86, 87, 88, 93, 94, 95, 96, 97, 98, 99, 100, 101, 102, 103, 104, 105, 106, 107, 108, 109, 110, 111, 112, 113, 114, 115, 116, 117] (by decide +kernel) (by decide +kernel)
set_option maxRecDepth 20000 in
theorem gX10_isShown_X10_settles : GoodIn wsX10_isShown (wsV RX10 246 RX10 yX10_settles wsX10_settles) := goodIn_app (goodIn_of _ (by decide +kernel)) ggX10_isShown_X10_settles
set_option maxRecDepth 20000 in
theorem ggX10_isShown_X10_begins : GoodIn wsX10_isShown wsX10_begins := goodIn_r _ [92, 7, 25, 1, 14, 9, 15, 16, 17, 5, 18, 19, 20, 21, 22, 23, 24, 26, 27, 28, 29, 30, 31, 32, 33, 34, 35, 36, 37, 10, 11, 12, 13, 8, 38, 39, 40, 41, 42, 43, 44, 45, 46, 47, 48, 49, 50, 51, 52, 53, 54, 55, 56, 57, 58, 59, 60, 61, 62, 63, 64, 65, 66, 67, 68, 69, 70, 71, 72, 93, 94, 95, 96, 97, 98, 99, 100, 101, 102, 103, 104, 105, 106, 107, 108, 109, 110, 111, 112, 113, 114, 115, 116, 117] (by decide +kernel) (by decide +kernel)
set_option maxRecDepth 20000 in
theorem gX10_isShown_X10_begins : GoodIn wsX10_isShown (wsV RX10 249 RX10 yX10_begins wsX10_begins) := goodIn_app (goodIn_of _ (by decide +kernel)) ggX10_isShown_X10_begins
theorem dX10_isShown_0 : decode cX10_isShown 0 = .ok (.iconst 0, 1) := by decide +kernel
theorem dX10_isShown_1 : decode cX10_isShown 1 = .ok (.istore_n 1, 1) := by decide +kernel
theorem dX10_isShown_2 : decode cX10_isShown 2 = .ok (.aload_n 0, 1) := by decide +kernel
theorem dX10_isShown_3 : decode cX10_isShown 3 = .ok (.getfield 57, 3) := by decide +kernel
theorem dX10_isShown_6 : decode cX10_isShown 6 = .ok (.iconst 0, 1) := by decide +kernel
theorem dX10_isShown_7 : decode cX10_isShown 7 = .ok (.iconst 0, 1) := by decide +kernel
theorem dX10_isShown_8 : decode cX10_isShown 8 = .ok (.iastore, 1) := by decide +kernel
theorem dX10_isShown_9 : decode cX10_isShown 9 = .ok (.iconst 2, 1) := by decide +kernel
theorem dX10_isShown_10 : decode cX10_isShown 10 = .ok (.istore_n 2, 1) := by decide +kernel
theorem dX10_isShown_11 : decode cX10_isShown 11 = .ok (.iload_n 1, 1) := by decide +kernel
theorem dX10_isShown_12 : decode cX10_isShown 12 = .ok (.ifCond .lt 61, 3) := by decide +kernel
theorem dX10_isShown_15 : decode cX10_isShown 15 = .ok (.iload_n 2, 1) := by decide +kernel
theorem dX10_isShown_16 : decode cX10_isShown 16 = .ok (.iconst 2, 1) := by decide +kernel
theorem dX10_isShown_17 : decode cX10_isShown 17 = .ok (.if_icmp .ge 12, 3) := by decide +kernel
theorem dX10_isShown_20 : decode cX10_isShown 20 = .ok (.aload_n 0, 1) := by decide +kernel
theorem dX10_isShown_21 : decode cX10_isShown 21 = .ok (.iload_n 1, 1) := by decide +kernel
theorem dX10_isShown_22 : decode cX10_isShown 22 = .ok (.iload_n 2, 1) := by decide +kernel
theorem dX10_isShown_23 : decode cX10_isShown 23 = .ok (.invokevirtual 243, 3) := by decide +kernel
theorem dX10_isShown_26 : decode cX10_isShown 26 = .ok (.goto 8, 3) := by decide +kernel
theorem dX10_isShown_29 : decode cX10_isShown 29 = .ok (.aload_n 0, 1) := by decide +kernel
theorem dX10_isShown_30 : decode cX10_isShown 30 = .ok (.iload_n 1, 1) := by decide +kernel
theorem dX10_isShown_31 : decode cX10_isShown 31 = .ok (.invokevirtual 246, 3) := by decide +kernel
theorem dX10_isShown_34 : decode cX10_isShown 34 = .ok (.istore_n 3, 1) := by decide +kernel
theorem dX10_isShown_35 : decode cX10_isShown 35 = .ok (.iload_n 2, 1) := by decide +kernel
theorem dX10_isShown_36 : decode cX10_isShown 36 = .ok (.iconst 2, 1) := by decide +kernel
theorem dX10_isShown_37 : decode cX10_isShown 37 = .ok (.if_icmp .ne 16, 3) := by decide +kernel
theorem dX10_isShown_40 : decode cX10_isShown 40 = .ok (.iload_n 3, 1) := by decide +kernel
theorem dX10_isShown_41 : decode cX10_isShown 41 = .ok (.iconst 2, 1) := by decide +kernel
theorem dX10_isShown_42 : decode cX10_isShown 42 = .ok (.if_icmp .ne 11, 3) := by decide +kernel
theorem dX10_isShown_45 : decode cX10_isShown 45 = .ok (.aload_n 0, 1) := by decide +kernel
theorem dX10_isShown_46 : decode cX10_isShown 46 = .ok (.iload_n 1, 1) := by decide +kernel
theorem dX10_isShown_47 : decode cX10_isShown 47 = .ok (.invokevirtual 249, 3) := by decide +kernel
theorem dX10_isShown_50 : decode cX10_isShown 50 = .ok (.goto 4, 3) := by decide +kernel
theorem dX10_isShown_53 : decode cX10_isShown 53 = .ok (.iload_n 3, 1) := by decide +kernel
theorem dX10_isShown_54 : decode cX10_isShown 54 = .ok (.istore_n 3, 1) := by decide +kernel
theorem dX10_isShown_55 : decode cX10_isShown 55 = .ok (.iload_n 1, 1) := by decide +kernel
theorem dX10_isShown_56 : decode cX10_isShown 56 = .ok (.iload_n 3, 1) := by decide +kernel
theorem dX10_isShown_57 : decode cX10_isShown 57 = .ok (.iconst 2, 1) := by decide +kernel
theorem dX10_isShown_58 : decode cX10_isShown 58 = .ok (.if_icmp .ne 7, 3) := by decide +kernel
theorem dX10_isShown_61 : decode cX10_isShown 61 = .ok (.iconst 1, 1) := by decide +kernel
theorem dX10_isShown_62 : decode cX10_isShown 62 = .ok (.goto 4, 3) := by decide +kernel
theorem dX10_isShown_65 : decode cX10_isShown 65 = .ok (.iconst (-1), 1) := by decide +kernel
theorem dX10_isShown_66 : decode cX10_isShown 66 = .ok (.iadd, 1) := by decide +kernel
theorem dX10_isShown_67 : decode cX10_isShown 67 = .ok (.istore_n 1, 1) := by decide +kernel
theorem dX10_isShown_68 : decode cX10_isShown 68 = .ok (.iload_n 3, 1) := by decide +kernel
theorem dX10_isShown_69 : decode cX10_isShown 69 = .ok (.istore_n 2, 1) := by decide +kernel
theorem dX10_isShown_70 : decode cX10_isShown 70 = .ok (.goto (-59), 3) := by decide +kernel
theorem dX10_isShown_73 : decode cX10_isShown 73 = .ok (.iload_n 2, 1) := by decide +kernel
theorem dX10_isShown_74 : decode cX10_isShown 74 = .ok (.iconst 1, 1) := by decide +kernel
theorem dX10_isShown_75 : decode cX10_isShown 75 = .ok (.if_icmp .ne 7, 3) := by decide +kernel
theorem dX10_isShown_78 : decode cX10_isShown 78 = .ok (.iconst 1, 1) := by decide +kernel
theorem dX10_isShown_79 : decode cX10_isShown 79 = .ok (.goto 4, 3) := by decide +kernel
theorem dX10_isShown_82 : decode cX10_isShown 82 = .ok (.iconst 0, 1) := by decide +kernel
theorem dX10_isShown_83 : decode cX10_isShown 83 = .ok (.ireturn, 1) := by decide +kernel
set_option maxRecDepth 20000 in
theorem ggX10_isBad_X10_in : GoodIn wsX10_isBad wsX10_in := goodIn_r _ [4] (by decide +kernel) (by decide +kernel)
set_option maxRecDepth 20000 in
theorem gX10_isBad_X10_in : GoodIn wsX10_isBad (va_wsS RX10 66 yX10_in wsX10_in) := goodIn_app (goodIn_of _ (by decide +kernel)) ggX10_isBad_X10_in
set_option maxRecDepth 20000 in
theorem ggX10_isBad_X10_places : GoodIn wsX10_isBad wsX10_places := goodIn_r _ [8, 9, 10, 11, 3, 12, 13, 14, 15, 16, 1, 2, 4, 17, 18, 19, 20, 21, 22, 23, 24, 25, 26, 27, 28, 29, 30, 31, 32, 33, 34, 35, 36, 37, 38, 39, 40, 41] (by decide +kernel) (by decide +kernel)
set_option maxRecDepth 20000 in
theorem gX10_isBad_X10_places : GoodIn wsX10_isBad (wsV RX10 166 RX10 yX10_places wsX10_places) := goodIn_app (goodIn_of _ (by decide +kernel)) ggX10_isBad_X10_places
theorem dX10_isBad_0 : decode cX10_isBad 0 = .ok (.iload_n 1, 1) := by decide +kernel
theorem dX10_isBad_1 : decode cX10_isBad 1 = .ok (.iconst 0, 1) := by decide +kernel
theorem dX10_isBad_2 : decode cX10_isBad 2 = .ok (.bipush 31, 2) := by decide +kernel
theorem dX10_isBad_4 : decode cX10_isBad 4 = .ok (.invokestatic 66, 3) := by decide +kernel
theorem dX10_isBad_7 : decode cX10_isBad 7 = .ok (.ifCond .eq 14, 3) := by decide +kernel
theorem dX10_isBad_10 : decode cX10_isBad 10 = .ok (.iload_n 1, 1) := by decide +kernel
theorem dX10_isBad_11 : decode cX10_isBad 11 = .ok (.aload_n 0, 1) := by decide +kernel
theorem dX10_isBad_12 : decode cX10_isBad 12 = .ok (.invokevirtual 166, 3) := by decide +kernel
theorem dX10_isBad_15 : decode cX10_isBad 15 = .ok (.iconst (-1), 1) := by decide +kernel
theorem dX10_isBad_16 : decode cX10_isBad 16 = .ok (.ixor, 1) := by decide +kernel
theorem dX10_isBad_17 : decode cX10_isBad 17 = .ok (.iand, 1) := by decide +kernel
theorem dX10_isBad_18 : decode cX10_isBad 18 = .ok (.ifCond .eq 7, 3) := by decide +kernel
theorem dX10_isBad_21 : decode cX10_isBad 21 = .ok (.iconst 1, 1) := by decide +kernel
theorem dX10_isBad_22 : decode cX10_isBad 22 = .ok (.goto 4, 3) := by decide +kernel
theorem dX10_isBad_25 : decode cX10_isBad 25 = .ok (.iconst 0, 1) := by decide +kernel
theorem dX10_isBad_26 : decode cX10_isBad 26 = .ok (.ireturn, 1) := by decide +kernel
set_option maxRecDepth 20000 in
theorem ggX10_sets_X10_clears : GoodIn wsX10_sets wsX10_clears := goodIn_r _ [7, 8, 9, 10, 11, 6, 12, 13, 14, 15, 16, 17, 18, 19, 20, 21, 22, 23, 24, 25, 26, 27, 28, 29, 30, 31, 32, 33, 34, 35, 36, 37, 38, 39, 40, 41, 42, 65, 66, 67, 68, 69, 70, 71, 72, 73, 74, 75, 76, 77, 78, 79, 80, 81, 82, 83, 84, 85, 86, 87, 88, 89] (by decide +kernel) (by decide +kernel)
set_option maxRecDepth 20000 in
theorem gX10_sets_X10_clears : GoodIn wsX10_sets (wsV RX10 252 RX10 yX10_clears wsX10_clears) := goodIn_app (goodIn_of _ (by decide +kernel)) ggX10_sets_X10_clears
set_option maxRecDepth 20000 in
theorem ggX10_sets_X10_partOf : GoodIn wsX10_sets wsX10_partOf := goodIn_r _ [46, 47, 48, 9, 10, 11, 6, 12, 8, 13, 14, 15, 16, 17, 18, 19, 20, 21, 22, 23, 24, 25, 26, 27, 28, 29, 30, 31, 32, 33, 34, 35, 36, 37, 38, 39, 40, 41, 42, 49, 50, 51, 52, 53, 54, 55, 56, 57, 58, 59, 60, 65, 66, 67, 68, 69, 70, 71, 72, 73, 74, 75, 76, 77, 78, 79, 80, 81, 82, 83, 84, 85, 86, 87, 88, 89] (by decide +kernel) (by decide +kernel)
set_option maxRecDepth 20000 in
theorem gX10_sets_X10_partOf : GoodIn wsX10_sets (wsV RX10 255 RX10 yX10_partOf wsX10_partOf) := goodIn_app (goodIn_of _ (by decide +kernel)) ggX10_sets_X10_partOf
set_option maxRecDepth 20000 in
theorem ggX10_sets_X10_gets : GoodIn wsX10_sets wsX10_gets := goodIn_r _ [64, 1, 65, 66, 67, 68, 69, 70, 71, 72, 73, 74, 75, 76, 77, 78, 79, 80, 81, 82, 83, 84, 85, 86, 87, 88, 89] (by decide +kernel) (by decide +kernel)
set_option maxRecDepth 20000 in
theorem gX10_sets_X10_gets : GoodIn wsX10_sets (wsV RX10 225 RX10 yX10_gets wsX10_gets) := goodIn_app (goodIn_of _ (by decide +kernel)) ggX10_sets_X10_gets
theorem dX10_sets_0 : decode cX10_sets 0 = .ok (.aload_n 0, 1) := by decide +kernel
theorem dX10_sets_1 : decode cX10_sets 1 = .ok (.invokevirtual 252, 3) := by decide +kernel
theorem dX10_sets_4 : decode cX10_sets 4 = .ok (.iconst 0, 1) := by decide +kernel
theorem dX10_sets_5 : decode cX10_sets 5 = .ok (.istore_n 3, 1) := by decide +kernel
theorem dX10_sets_6 : decode cX10_sets 6 = .ok (.iload_n 3, 1) := by decide +kernel
theorem dX10_sets_7 : decode cX10_sets 7 = .ok (.bipush 32, 2) := by decide +kernel
theorem dX10_sets_9 : decode cX10_sets 9 = .ok (.if_icmp .ge 16, 3) := by decide +kernel
theorem dX10_sets_12 : decode cX10_sets 12 = .ok (.aload_n 0, 1) := by decide +kernel
theorem dX10_sets_13 : decode cX10_sets 13 = .ok (.getfield 51, 3) := by decide +kernel
theorem dX10_sets_16 : decode cX10_sets 16 = .ok (.iload_n 3, 1) := by decide +kernel
theorem dX10_sets_17 : decode cX10_sets 17 = .ok (.iconst 0, 1) := by decide +kernel
theorem dX10_sets_18 : decode cX10_sets 18 = .ok (.iastore, 1) := by decide +kernel
theorem dX10_sets_19 : decode cX10_sets 19 = .ok (.iinc 3 1, 3) := by decide +kernel
theorem dX10_sets_22 : decode cX10_sets 22 = .ok (.goto (-16), 3) := by decide +kernel
theorem dX10_sets_25 : decode cX10_sets 25 = .ok (.iconst 0, 1) := by decide +kernel
theorem dX10_sets_26 : decode cX10_sets 26 = .ok (.istore_n 3, 1) := by decide +kernel
theorem dX10_sets_27 : decode cX10_sets 27 = .ok (.iload_n 3, 1) := by decide +kernel
theorem dX10_sets_28 : decode cX10_sets 28 = .ok (.iconst 5, 1) := by decide +kernel
theorem dX10_sets_29 : decode cX10_sets 29 = .ok (.if_icmp .ge 28, 3) := by decide +kernel
theorem dX10_sets_32 : decode cX10_sets 32 = .ok (.iload_n 1, 1) := by decide +kernel
theorem dX10_sets_33 : decode cX10_sets 33 = .ok (.iload_n 3, 1) := by decide +kernel
theorem dX10_sets_34 : decode cX10_sets 34 = .ok (.ishr, 1) := by decide +kernel
theorem dX10_sets_35 : decode cX10_sets 35 = .ok (.iconst 1, 1) := by decide +kernel
theorem dX10_sets_36 : decode cX10_sets 36 = .ok (.iand, 1) := by decide +kernel
theorem dX10_sets_37 : decode cX10_sets 37 = .ok (.iconst 1, 1) := by decide +kernel
theorem dX10_sets_38 : decode cX10_sets 38 = .ok (.if_icmp .ne 13, 3) := by decide +kernel
theorem dX10_sets_41 : decode cX10_sets 41 = .ok (.aload_n 0, 1) := by decide +kernel
theorem dX10_sets_42 : decode cX10_sets 42 = .ok (.iconst 0, 1) := by decide +kernel
theorem dX10_sets_43 : decode cX10_sets 43 = .ok (.aload_n 0, 1) := by decide +kernel
theorem dX10_sets_44 : decode cX10_sets 44 = .ok (.iload_n 3, 1) := by decide +kernel
theorem dX10_sets_45 : decode cX10_sets 45 = .ok (.invokevirtual 255, 3) := by decide +kernel
theorem dX10_sets_48 : decode cX10_sets 48 = .ok (.invokevirtual 225, 3) := by decide +kernel
theorem dX10_sets_51 : decode cX10_sets 51 = .ok (.iinc 3 1, 3) := by decide +kernel
theorem dX10_sets_54 : decode cX10_sets 54 = .ok (.goto (-27), 3) := by decide +kernel
theorem dX10_sets_57 : decode cX10_sets 57 = .ok (.aload_n 0, 1) := by decide +kernel
theorem dX10_sets_58 : decode cX10_sets 58 = .ok (.getfield 54, 3) := by decide +kernel
theorem dX10_sets_61 : decode cX10_sets 61 = .ok (.iconst 0, 1) := by decide +kernel
theorem dX10_sets_62 : decode cX10_sets 62 = .ok (.aload_n 0, 1) := by decide +kernel
theorem dX10_sets_63 : decode cX10_sets 63 = .ok (.iload_n 2, 1) := by decide +kernel
theorem dX10_sets_64 : decode cX10_sets 64 = .ok (.invokevirtual 255, 3) := by decide +kernel
theorem dX10_sets_67 : decode cX10_sets 67 = .ok (.iastore, 1) := by decide +kernel
theorem dX10_sets_68 : decode cX10_sets 68 = .ok (.return_, 1) := by decide +kernel
set_option maxRecDepth 20000 in
theorem ggX10_isFollowing_X10_sets : GoodIn wsX10_isFollowing wsX10_sets := goodIn_r _ [5, 6, 7, 8, 9, 10, 4, 11, 12, 13, 14, 15, 16, 17, 18, 19, 20, 21, 22, 23, 24, 25, 26, 27, 28, 29, 30, 31, 32, 33, 34, 35, 36, 37, 38, 39, 40, 41, 42, 43, 44, 45, 46, 47, 48, 49, 50, 51, 52, 53, 54, 55, 56, 57, 58, 59, 60, 61, 62, 63, 64, 65, 66, 67, 68, 119, 120, 121, 122, 123, 124, 125, 126, 127, 128, 129, 130, 131, 132, 133, 134, 135, 136, 137, 138, 139, 140, 141, 142, 143] (by decide +kernel) (by decide +kernel)
set_option maxRecDepth 20000 in
theorem gX10_isFollowing_X10_sets : GoodIn wsX10_isFollowing (wsV RX10 258 RX10 yX10_sets wsX10_sets) := goodIn_app (goodIn_of _ (by decide +kernel)) ggX10_isFollowing_X10_sets
set_option maxRecDepth 20000 in
theorem ggX10_isFollowing_X10_isShown : GoodIn wsX10_isFollowing wsX10_isShown := goodIn_r _ [72, 73, 74, 75, 76, 4, 77, 7, 19, 78, 79, 80, 81, 82, 18, 83, 84, 85, 86, 6, 87, 88, 89, 90, 12, 17, 91, 92, 93, 94, 95, 96, 97, 98, 65, 66, 67, 68, 53, 54, 55, 56, 13, 14, 15, 16, 20, 21, 22, 23, 24, 25, 26, 27, 28, 29, 30, 31, 32, 33, 34, 35, 36, 37, 38, 39, 40, 41, 42, 43, 44, 45, 46, 99, 100, 101, 102, 103, 104, 105, 106, 107, 108, 109, 110, 111, 112, 113, 114, 115, 116, 117, 118, 119, 120, 121, 122, 123, 124, 125, 126, 127, 128, 129, 130, 131, 132, 133, 134, 135, 136, 137, 138, 139, 140, 141, 142, 143] (by decide +kernel) (by decide +kernel)
set_option maxRecDepth 20000 in
theorem gX10_isFollowing_X10_isShown : GoodIn wsX10_isFollowing (wsV RX10 261 RX10 yX10_isShown wsX10_isShown) := goodIn_app (goodIn_of _ (by decide +kernel)) ggX10_isFollowing_X10_isShown
theorem dX10_isFollowing_0 : decode cX10_isFollowing 0 = .ok (.aload_n 0, 1) := by decide +kernel
theorem dX10_isFollowing_1 : decode cX10_isFollowing 1 = .ok (.iload_n 1, 1) := by decide +kernel
theorem dX10_isFollowing_2 : decode cX10_isFollowing 2 = .ok (.iload_n 2, 1) := by decide +kernel
theorem dX10_isFollowing_3 : decode cX10_isFollowing 3 = .ok (.invokevirtual 258, 3) := by decide +kernel
theorem dX10_isFollowing_6 : decode cX10_isFollowing 6 = .ok (.aload_n 0, 1) := by decide +kernel
theorem dX10_isFollowing_7 : decode cX10_isFollowing 7 = .ok (.invokevirtual 261, 3) := by decide +kernel
theorem dX10_isFollowing_10 : decode cX10_isFollowing 10 = .ok (.ireturn, 1) := by decide +kernel
set_option maxRecDepth 20000 in
theorem ggX10_isKept_X10_wordsOf : GoodIn wsX10_isKept wsX10_wordsOf := goodIn_r _ [7] (by decide +kernel) (by decide +kernel)
set_option maxRecDepth 20000 in
theorem gX10_isKept_X10_wordsOf : GoodIn wsX10_isKept (va_wsS RX10 185 yX10_wordsOf wsX10_wordsOf) := goodIn_app (goodIn_of _ (by decide +kernel)) ggX10_isKept_X10_wordsOf
set_option maxRecDepth 20000 in
theorem ggX10_isKept_X10_begin : GoodIn wsX10_isKept wsX10_begin := goodIn_r _ [10] (by decide +kernel) (by decide +kernel)
set_option maxRecDepth 20000 in
theorem gX10_isKept_X10_begin : GoodIn wsX10_isKept (va_wsS RX10 188 yX10_begin wsX10_begin) := goodIn_app (goodIn_of _ (by decide +kernel)) ggX10_isKept_X10_begin
set_option maxRecDepth 20000 in
theorem ggX10_isKept_X10_models : GoodIn wsX10_isKept wsX10_models := goodIn_r _ [13] (by decide +kernel) (by decide +kernel)
set_option maxRecDepth 20000 in
theorem gX10_isKept_X10_models : GoodIn wsX10_isKept (va_wsS RX10 198 yX10_models wsX10_models) := goodIn_app (goodIn_of _ (by decide +kernel)) ggX10_isKept_X10_models
set_option maxRecDepth 20000 in
theorem ggX10_isKept_X10_wordEnd : GoodIn wsX10_isKept wsX10_wordEnd := goodIn_r _ [16] (by decide +kernel) (by decide +kernel)
set_option maxRecDepth 20000 in
theorem gX10_isKept_X10_wordEnd : GoodIn wsX10_isKept (va_wsS RX10 215 yX10_wordEnd wsX10_wordEnd) := goodIn_app (goodIn_of _ (by decide +kernel)) ggX10_isKept_X10_wordEnd
set_option maxRecDepth 20000 in
theorem ggX10_isKept_X10_has : GoodIn wsX10_isKept wsX10_has := goodIn_r _ [20, 21, 22, 23, 24, 25, 26, 27, 28, 29, 30, 31, 32, 33, 34, 35, 36, 37, 38, 39, 40, 41, 42, 43, 44, 45, 46] (by decide +kernel) (by decide +kernel)
set_option maxRecDepth 20000 in
theorem gX10_isKept_X10_has : GoodIn wsX10_isKept (wsV RX10 218 RX10 yX10_has wsX10_has) := goodIn_app (goodIn_of _ (by decide +kernel)) ggX10_isKept_X10_has
theorem dX10_isKept_0 : decode cX10_isKept 0 = .ok (.iload_n 1, 1) := by decide +kernel
theorem dX10_isKept_1 : decode cX10_isKept 1 = .ok (.invokestatic 185, 3) := by decide +kernel
theorem dX10_isKept_4 : decode cX10_isKept 4 = .ok (.iload_n 1, 1) := by decide +kernel
theorem dX10_isKept_5 : decode cX10_isKept 5 = .ok (.iconst 3, 1) := by decide +kernel
theorem dX10_isKept_6 : decode cX10_isKept 6 = .ok (.if_icmp .ge 9, 3) := by decide +kernel
theorem dX10_isKept_9 : decode cX10_isKept 9 = .ok (.iload_n 1, 1) := by decide +kernel
theorem dX10_isKept_10 : decode cX10_isKept 10 = .ok (.iconst 1, 1) := by decide +kernel
theorem dX10_isKept_11 : decode cX10_isKept 11 = .ok (.iadd, 1) := by decide +kernel
theorem dX10_isKept_12 : decode cX10_isKept 12 = .ok (.goto 4, 3) := by decide +kernel
theorem dX10_isKept_15 : decode cX10_isKept 15 = .ok (.iconst 3, 1) := by decide +kernel
theorem dX10_isKept_16 : decode cX10_isKept 16 = .ok (.imul, 1) := by decide +kernel
theorem dX10_isKept_17 : decode cX10_isKept 17 = .ok (.istore_n 2, 1) := by decide +kernel
theorem dX10_isKept_18 : decode cX10_isKept 18 = .ok (.iconst 0, 1) := by decide +kernel
theorem dX10_isKept_19 : decode cX10_isKept 19 = .ok (.istore_n 3, 1) := by decide +kernel
theorem dX10_isKept_20 : decode cX10_isKept 20 = .ok (.iload_n 3, 1) := by decide +kernel
theorem dX10_isKept_21 : decode cX10_isKept 21 = .ok (.iload_n 2, 1) := by decide +kernel
theorem dX10_isKept_22 : decode cX10_isKept 22 = .ok (.if_icmp .ge 108, 3) := by decide +kernel
theorem dX10_isKept_25 : decode cX10_isKept 25 = .ok (.iload_n 1, 1) := by decide +kernel
theorem dX10_isKept_26 : decode cX10_isKept 26 = .ok (.invokestatic 188, 3) := by decide +kernel
theorem dX10_isKept_29 : decode cX10_isKept 29 = .ok (.iload_n 3, 1) := by decide +kernel
theorem dX10_isKept_30 : decode cX10_isKept 30 = .ok (.iadd, 1) := by decide +kernel
theorem dX10_isKept_31 : decode cX10_isKept 31 = .ok (.istore 4, 2) := by decide +kernel
theorem dX10_isKept_33 : decode cX10_isKept 33 = .ok (.iload_n 3, 1) := by decide +kernel
theorem dX10_isKept_34 : decode cX10_isKept 34 = .ok (.iload_n 1, 1) := by decide +kernel
theorem dX10_isKept_35 : decode cX10_isKept 35 = .ok (.invokestatic 185, 3) := by decide +kernel
theorem dX10_isKept_38 : decode cX10_isKept 38 = .ok (.iload_n 1, 1) := by decide +kernel
theorem dX10_isKept_39 : decode cX10_isKept 39 = .ok (.invokestatic 198, 3) := by decide +kernel
theorem dX10_isKept_42 : decode cX10_isKept 42 = .ok (.invokestatic 215, 3) := by decide +kernel
theorem dX10_isKept_45 : decode cX10_isKept 45 = .ok (.istore 5, 2) := by decide +kernel
theorem dX10_isKept_47 : decode cX10_isKept 47 = .ok (.iconst 0, 1) := by decide +kernel
theorem dX10_isKept_48 : decode cX10_isKept 48 = .ok (.istore 6, 2) := by decide +kernel
theorem dX10_isKept_50 : decode cX10_isKept 50 = .ok (.iload 6, 2) := by decide +kernel
theorem dX10_isKept_52 : decode cX10_isKept 52 = .ok (.aload_n 0, 1) := by decide +kernel
theorem dX10_isKept_53 : decode cX10_isKept 53 = .ok (.getfield 172, 3) := by decide +kernel
theorem dX10_isKept_56 : decode cX10_isKept 56 = .ok (.if_icmp .ge 41, 3) := by decide +kernel
theorem dX10_isKept_59 : decode cX10_isKept 59 = .ok (.iload 5, 2) := by decide +kernel
theorem dX10_isKept_61 : decode cX10_isKept 61 = .ok (.aload_n 0, 1) := by decide +kernel
theorem dX10_isKept_62 : decode cX10_isKept 62 = .ok (.iconst 0, 1) := by decide +kernel
theorem dX10_isKept_63 : decode cX10_isKept 63 = .ok (.iload 6, 2) := by decide +kernel
theorem dX10_isKept_65 : decode cX10_isKept 65 = .ok (.invokevirtual 218, 3) := by decide +kernel
theorem dX10_isKept_68 : decode cX10_isKept 68 = .ok (.ifCond .eq 19, 3) := by decide +kernel
theorem dX10_isKept_71 : decode cX10_isKept 71 = .ok (.aload_n 0, 1) := by decide +kernel
theorem dX10_isKept_72 : decode cX10_isKept 72 = .ok (.getfield 48, 3) := by decide +kernel
theorem dX10_isKept_75 : decode cX10_isKept 75 = .ok (.bipush 91, 2) := by decide +kernel
theorem dX10_isKept_77 : decode cX10_isKept 77 = .ok (.iload 6, 2) := by decide +kernel
theorem dX10_isKept_79 : decode cX10_isKept 79 = .ok (.imul, 1) := by decide +kernel
theorem dX10_isKept_80 : decode cX10_isKept 80 = .ok (.iload 4, 2) := by decide +kernel
theorem dX10_isKept_82 : decode cX10_isKept 82 = .ok (.iadd, 1) := by decide +kernel
theorem dX10_isKept_83 : decode cX10_isKept 83 = .ok (.iaload, 1) := by decide +kernel
theorem dX10_isKept_84 : decode cX10_isKept 84 = .ok (.goto 4, 3) := by decide +kernel
theorem dX10_isKept_87 : decode cX10_isKept 87 = .ok (.iconst (-1), 1) := by decide +kernel
theorem dX10_isKept_88 : decode cX10_isKept 88 = .ok (.iand, 1) := by decide +kernel
theorem dX10_isKept_89 : decode cX10_isKept 89 = .ok (.istore 5, 2) := by decide +kernel
theorem dX10_isKept_91 : decode cX10_isKept 91 = .ok (.iinc 6 1, 3) := by decide +kernel
theorem dX10_isKept_94 : decode cX10_isKept 94 = .ok (.goto (-44), 3) := by decide +kernel
theorem dX10_isKept_97 : decode cX10_isKept 97 = .ok (.iload 5, 2) := by decide +kernel
theorem dX10_isKept_99 : decode cX10_isKept 99 = .ok (.aload_n 0, 1) := by decide +kernel
theorem dX10_isKept_100 : decode cX10_isKept 100 = .ok (.getfield 48, 3) := by decide +kernel
theorem dX10_isKept_103 : decode cX10_isKept 103 = .ok (.bipush 91, 2) := by decide +kernel
theorem dX10_isKept_105 : decode cX10_isKept 105 = .ok (.aload_n 0, 1) := by decide +kernel
theorem dX10_isKept_106 : decode cX10_isKept 106 = .ok (.getfield 54, 3) := by decide +kernel
theorem dX10_isKept_109 : decode cX10_isKept 109 = .ok (.iconst 0, 1) := by decide +kernel
theorem dX10_isKept_110 : decode cX10_isKept 110 = .ok (.iaload, 1) := by decide +kernel
theorem dX10_isKept_111 : decode cX10_isKept 111 = .ok (.imul, 1) := by decide +kernel
theorem dX10_isKept_112 : decode cX10_isKept 112 = .ok (.iload 4, 2) := by decide +kernel
theorem dX10_isKept_114 : decode cX10_isKept 114 = .ok (.iadd, 1) := by decide +kernel
theorem dX10_isKept_115 : decode cX10_isKept 115 = .ok (.iaload, 1) := by decide +kernel
theorem dX10_isKept_116 : decode cX10_isKept 116 = .ok (.iconst (-1), 1) := by decide +kernel
theorem dX10_isKept_117 : decode cX10_isKept 117 = .ok (.ixor, 1) := by decide +kernel
theorem dX10_isKept_118 : decode cX10_isKept 118 = .ok (.iand, 1) := by decide +kernel
theorem dX10_isKept_119 : decode cX10_isKept 119 = .ok (.ifCond .eq 5, 3) := by decide +kernel
theorem dX10_isKept_122 : decode cX10_isKept 122 = .ok (.iconst 0, 1) := by decide +kernel
theorem dX10_isKept_123 : decode cX10_isKept 123 = .ok (.ireturn, 1) := by decide +kernel
theorem dX10_isKept_124 : decode cX10_isKept 124 = .ok (.iinc 3 1, 3) := by decide +kernel
theorem dX10_isKept_127 : decode cX10_isKept 127 = .ok (.goto (-107), 3) := by decide +kernel
theorem dX10_isKept_130 : decode cX10_isKept 130 = .ok (.iconst 1, 1) := by decide +kernel
theorem dX10_isKept_131 : decode cX10_isKept 131 = .ok (.ireturn, 1) := by decide +kernel
set_option maxRecDepth 20000 in
theorem ggX10_follows_X10_isBad : GoodIn wsX10_follows wsX10_isBad := goodIn_r _ [5, 6, 7, 4, 8, 9, 10, 11, 12, 13, 14, 15, 16, 17, 18, 19, 20, 141, 142, 143, 144, 145, 146, 147, 148, 149, 150, 151, 152, 153, 154, 155, 156, 157, 158, 159, 160, 161, 162, 163, 164, 165] (by decide +kernel) (by decide +kernel)
set_option maxRecDepth 20000 in
theorem gX10_follows_X10_isBad : GoodIn wsX10_follows (wsV RX10 264 RX10 yX10_isBad wsX10_isBad) := goodIn_app (goodIn_of _ (by decide +kernel)) ggX10_follows_X10_isBad
set_option maxRecDepth 20000 in
theorem ggX10_follows_X10_noClaim : GoodIn wsX10_follows wsX10_noClaim := goodIn_r _ [16, 17, 18, 19, 4, 20, 6, 7, 8, 141, 142, 143, 144, 145, 146, 147, 148, 149, 150, 151, 152, 153, 154, 155, 156, 157, 158, 159, 160, 161, 162, 163, 164, 165] (by decide +kernel) (by decide +kernel)
set_option maxRecDepth 20000 in
theorem gX10_follows_X10_noClaim : GoodIn wsX10_follows (wsV RX10 163 RX10 yX10_noClaim wsX10_noClaim) := goodIn_app (goodIn_of _ (by decide +kernel)) ggX10_follows_X10_noClaim
set_option maxRecDepth 20000 in
theorem ggX10_follows_X10_isFollowing : GoodIn wsX10_follows wsX10_isFollowing := goodIn_r _ [24, 25, 26, 27, 4, 28, 29, 30, 31, 32, 33, 34, 35, 36, 37, 38, 39, 40, 41, 42, 43, 44, 45, 46, 47, 48, 49, 50, 51, 52, 53, 54, 55, 56, 57, 58, 59, 60, 61, 62, 63, 64, 65, 66, 67, 68, 69, 70, 71, 72, 73, 17, 74, 75, 76, 77, 78, 79, 80, 81, 82, 83, 84, 85, 86, 87, 88, 89, 90, 91, 92, 93, 94, 95, 96, 97, 98, 99, 100, 101, 102, 103, 104, 105, 106, 107, 108, 109, 110, 111, 112, 113, 114, 115, 116, 117, 118, 119, 120, 121, 122, 123, 124, 125, 126, 127, 128, 129, 130, 131, 132, 133, 134, 135, 136, 137, 138, 139, 140, 141, 142, 143, 144, 145, 146, 147, 148, 149, 150, 151, 152, 153, 154, 155, 156, 157, 158, 159, 160, 161, 162, 163, 164, 165] (by decide +kernel) (by decide +kernel)
set_option maxRecDepth 20000 in
theorem gX10_follows_X10_isFollowing : GoodIn wsX10_follows (wsV RX10 267 RX10 yX10_isFollowing wsX10_isFollowing) := goodIn_app (goodIn_of _ (by decide +kernel)) ggX10_follows_X10_isFollowing
theorem dX10_follows_0 : decode cX10_follows 0 = .ok (.aload_n 0, 1) := by decide +kernel
theorem dX10_follows_1 : decode cX10_follows 1 = .ok (.iload_n 1, 1) := by decide +kernel
theorem dX10_follows_2 : decode cX10_follows 2 = .ok (.invokevirtual 264, 3) := by decide +kernel
theorem dX10_follows_5 : decode cX10_follows 5 = .ok (.ifCond .eq 6, 3) := by decide +kernel
theorem dX10_follows_8 : decode cX10_follows 8 = .ok (.bipush (-2), 2) := by decide +kernel
theorem dX10_follows_10 : decode cX10_follows 10 = .ok (.ireturn, 1) := by decide +kernel
theorem dX10_follows_11 : decode cX10_follows 11 = .ok (.aload_n 0, 1) := by decide +kernel
theorem dX10_follows_12 : decode cX10_follows 12 = .ok (.iload_n 2, 1) := by decide +kernel
theorem dX10_follows_13 : decode cX10_follows 13 = .ok (.invokevirtual 163, 3) := by decide +kernel
theorem dX10_follows_16 : decode cX10_follows 16 = .ok (.ifCond .eq 5, 3) := by decide +kernel
theorem dX10_follows_19 : decode cX10_follows 19 = .ok (.iconst (-1), 1) := by decide +kernel
theorem dX10_follows_20 : decode cX10_follows 20 = .ok (.ireturn, 1) := by decide +kernel
theorem dX10_follows_21 : decode cX10_follows 21 = .ok (.aload_n 0, 1) := by decide +kernel
theorem dX10_follows_22 : decode cX10_follows 22 = .ok (.iload_n 1, 1) := by decide +kernel
theorem dX10_follows_23 : decode cX10_follows 23 = .ok (.iload_n 2, 1) := by decide +kernel
theorem dX10_follows_24 : decode cX10_follows 24 = .ok (.invokevirtual 267, 3) := by decide +kernel
theorem dX10_follows_27 : decode cX10_follows 27 = .ok (.ifCond .eq 7, 3) := by decide +kernel
theorem dX10_follows_30 : decode cX10_follows 30 = .ok (.iconst 1, 1) := by decide +kernel
theorem dX10_follows_31 : decode cX10_follows 31 = .ok (.goto 4, 3) := by decide +kernel
theorem dX10_follows_34 : decode cX10_follows 34 = .ok (.iconst 0, 1) := by decide +kernel
theorem dX10_follows_35 : decode cX10_follows 35 = .ok (.ireturn, 1) := by decide +kernel
set_option maxRecDepth 20000 in
theorem ggX10_followsPlainly_X10_isBad : GoodIn wsX10_followsPlainly wsX10_isBad := goodIn_r _ [5, 6, 7, 4, 8, 9, 10, 11, 12, 13, 14, 15, 16, 17, 18, 19, 20, 98, 99, 100, 101, 102, 103, 104, 105, 106, 107, 108, 109, 110, 111, 112, 113, 114, 115, 116, 117, 118, 119, 120, 121, 122] (by decide +kernel) (by decide +kernel)
set_option maxRecDepth 20000 in
theorem gX10_followsPlainly_X10_isBad : GoodIn wsX10_followsPlainly (wsV RX10 264 RX10 yX10_isBad wsX10_isBad) := goodIn_app (goodIn_of _ (by decide +kernel)) ggX10_followsPlainly_X10_isBad
set_option maxRecDepth 20000 in
theorem ggX10_followsPlainly_X10_noClaim : GoodIn wsX10_followsPlainly wsX10_noClaim := goodIn_r _ [16, 17, 18, 19, 4, 20, 6, 7, 8, 98, 99, 100, 101, 102, 103, 104, 105, 106, 107, 108, 109, 110, 111, 112, 113, 114, 115, 116, 117, 118, 119, 120, 121, 122] (by decide +kernel) (by decide +kernel)
set_option maxRecDepth 20000 in
theorem gX10_followsPlainly_X10_noClaim : GoodIn wsX10_followsPlainly (wsV RX10 163 RX10 yX10_noClaim wsX10_noClaim) := goodIn_app (goodIn_of _ (by decide +kernel)) ggX10_followsPlainly_X10_noClaim
set_option maxRecDepth 20000 in
theorem ggX10_followsPlainly_X10_sets : GoodIn wsX10_followsPlainly wsX10_sets := goodIn_r _ [24, 25, 26, 27, 28, 29, 4, 30, 31, 32, 33, 34, 35, 36, 37, 38, 39, 40, 41, 42, 43, 44, 45, 46, 47, 48, 49, 50, 51, 52, 53, 54, 55, 56, 57, 58, 59, 60, 61, 62, 63, 64, 65, 66, 67, 68, 69, 17, 70, 71, 72, 73, 74, 75, 76, 77, 78, 79, 80, 81, 82, 83, 84, 85, 86, 98, 99, 100, 101, 102, 103, 104, 105, 106, 107, 108, 109, 110, 111, 112, 113, 114, 115, 116, 117, 118, 119, 120, 121, 122] (by decide +kernel) (by decide +kernel)
set_option maxRecDepth 20000 in
theorem gX10_followsPlainly_X10_sets : GoodIn wsX10_followsPlainly (wsV RX10 258 RX10 yX10_sets wsX10_sets) := goodIn_app (goodIn_of _ (by decide +kernel)) ggX10_followsPlainly_X10_sets
set_option maxRecDepth 20000 in
theorem ggX10_followsPlainly_X10_isKept : GoodIn wsX10_followsPlainly wsX10_isKept := goodIn_r _ [90, 31, 43, 26, 44, 45, 4, 46, 47, 48, 49, 53, 54, 55, 91, 92, 93, 94, 95, 96, 97, 25, 98, 99, 100, 101, 102, 103, 104, 105, 106, 107, 108, 109, 110, 111, 112, 113, 114, 115, 116, 117, 118, 119, 120, 121, 122] (by decide +kernel) (by decide +kernel)
set_option maxRecDepth 20000 in
theorem gX10_followsPlainly_X10_isKept : GoodIn wsX10_followsPlainly (wsV RX10 270 RX10 yX10_isKept wsX10_isKept) := goodIn_app (goodIn_of _ (by decide +kernel)) ggX10_followsPlainly_X10_isKept
theorem dX10_followsPlainly_0 : decode cX10_followsPlainly 0 = .ok (.aload_n 0, 1) := by decide +kernel
theorem dX10_followsPlainly_1 : decode cX10_followsPlainly 1 = .ok (.iload_n 1, 1) := by decide +kernel
theorem dX10_followsPlainly_2 : decode cX10_followsPlainly 2 = .ok (.invokevirtual 264, 3) := by decide +kernel
theorem dX10_followsPlainly_5 : decode cX10_followsPlainly 5 = .ok (.ifCond .eq 6, 3) := by decide +kernel
theorem dX10_followsPlainly_8 : decode cX10_followsPlainly 8 = .ok (.bipush (-2), 2) := by decide +kernel
theorem dX10_followsPlainly_10 : decode cX10_followsPlainly 10 = .ok (.ireturn, 1) := by decide +kernel
theorem dX10_followsPlainly_11 : decode cX10_followsPlainly 11 = .ok (.aload_n 0, 1) := by decide +kernel
theorem dX10_followsPlainly_12 : decode cX10_followsPlainly 12 = .ok (.iload_n 2, 1) := by decide +kernel
theorem dX10_followsPlainly_13 : decode cX10_followsPlainly 13 = .ok (.invokevirtual 163, 3) := by decide +kernel
theorem dX10_followsPlainly_16 : decode cX10_followsPlainly 16 = .ok (.ifCond .eq 5, 3) := by decide +kernel
theorem dX10_followsPlainly_19 : decode cX10_followsPlainly 19 = .ok (.iconst (-1), 1) := by decide +kernel
theorem dX10_followsPlainly_20 : decode cX10_followsPlainly 20 = .ok (.ireturn, 1) := by decide +kernel
theorem dX10_followsPlainly_21 : decode cX10_followsPlainly 21 = .ok (.aload_n 0, 1) := by decide +kernel
theorem dX10_followsPlainly_22 : decode cX10_followsPlainly 22 = .ok (.iload_n 1, 1) := by decide +kernel
theorem dX10_followsPlainly_23 : decode cX10_followsPlainly 23 = .ok (.iload_n 2, 1) := by decide +kernel
theorem dX10_followsPlainly_24 : decode cX10_followsPlainly 24 = .ok (.invokevirtual 258, 3) := by decide +kernel
theorem dX10_followsPlainly_27 : decode cX10_followsPlainly 27 = .ok (.aload_n 0, 1) := by decide +kernel
theorem dX10_followsPlainly_28 : decode cX10_followsPlainly 28 = .ok (.iconst 0, 1) := by decide +kernel
theorem dX10_followsPlainly_29 : decode cX10_followsPlainly 29 = .ok (.invokevirtual 270, 3) := by decide +kernel
theorem dX10_followsPlainly_32 : decode cX10_followsPlainly 32 = .ok (.ifCond .eq 7, 3) := by decide +kernel
theorem dX10_followsPlainly_35 : decode cX10_followsPlainly 35 = .ok (.iconst 1, 1) := by decide +kernel
theorem dX10_followsPlainly_36 : decode cX10_followsPlainly 36 = .ok (.goto 4, 3) := by decide +kernel
theorem dX10_followsPlainly_39 : decode cX10_followsPlainly 39 = .ok (.iconst 0, 1) := by decide +kernel
theorem dX10_followsPlainly_40 : decode cX10_followsPlainly 40 = .ok (.ireturn, 1) := by decide +kernel
set_option maxRecDepth 20000 in
theorem ggX10_fewestStages_X10_isBad : GoodIn wsX10_fewestStages wsX10_isBad := goodIn_r _ [5, 6, 7, 4, 8, 9, 10, 11, 12, 13, 14, 15, 16, 17, 18, 19, 20, 98, 99, 100, 101, 102, 103, 104, 105, 106, 107, 108, 109, 110, 111, 112, 113, 114, 115, 116, 117, 118, 119, 120, 121, 122] (by decide +kernel) (by decide +kernel)
set_option maxRecDepth 20000 in
theorem gX10_fewestStages_X10_isBad : GoodIn wsX10_fewestStages (wsV RX10 264 RX10 yX10_isBad wsX10_isBad) := goodIn_app (goodIn_of _ (by decide +kernel)) ggX10_fewestStages_X10_isBad
set_option maxRecDepth 20000 in
theorem ggX10_fewestStages_X10_noClaim : GoodIn wsX10_fewestStages wsX10_noClaim := goodIn_r _ [16, 17, 18, 19, 4, 20, 6, 7, 8, 98, 99, 100, 101, 102, 103, 104, 105, 106, 107, 108, 109, 110, 111, 112, 113, 114, 115, 116, 117, 118, 119, 120, 121, 122] (by decide +kernel) (by decide +kernel)
set_option maxRecDepth 20000 in
theorem gX10_fewestStages_X10_noClaim : GoodIn wsX10_fewestStages (wsV RX10 163 RX10 yX10_noClaim wsX10_noClaim) := goodIn_app (goodIn_of _ (by decide +kernel)) ggX10_fewestStages_X10_noClaim
set_option maxRecDepth 20000 in
theorem ggX10_fewestStages_X10_sets : GoodIn wsX10_fewestStages wsX10_sets := goodIn_r _ [24, 25, 26, 27, 28, 29, 4, 30, 31, 32, 33, 34, 35, 36, 37, 38, 39, 40, 41, 42, 43, 44, 45, 46, 47, 48, 49, 50, 51, 52, 53, 54, 55, 56, 57, 58, 59, 60, 61, 62, 63, 64, 65, 66, 67, 68, 69, 17, 70, 71, 72, 73, 74, 75, 76, 77, 78, 79, 80, 81, 82, 83, 84, 85, 86, 98, 99, 100, 101, 102, 103, 104, 105, 106, 107, 108, 109, 110, 111, 112, 113, 114, 115, 116, 117, 118, 119, 120, 121, 122] (by decide +kernel) (by decide +kernel)
set_option maxRecDepth 20000 in
theorem gX10_fewestStages_X10_sets : GoodIn wsX10_fewestStages (wsV RX10 258 RX10 yX10_sets wsX10_sets) := goodIn_app (goodIn_of _ (by decide +kernel)) ggX10_fewestStages_X10_sets
set_option maxRecDepth 20000 in
theorem ggX10_fewestStages_X10_isKept : GoodIn wsX10_fewestStages wsX10_isKept := goodIn_r _ [90, 31, 43, 26, 44, 45, 4, 46, 47, 48, 49, 53, 54, 55, 91, 92, 93, 94, 95, 96, 97, 25, 98, 99, 100, 101, 102, 103, 104, 105, 106, 107, 108, 109, 110, 111, 112, 113, 114, 115, 116, 117, 118, 119, 120, 121, 122] (by decide +kernel) (by decide +kernel)
set_option maxRecDepth 20000 in
theorem gX10_fewestStages_X10_isKept : GoodIn wsX10_fewestStages (wsV RX10 270 RX10 yX10_isKept wsX10_isKept) := goodIn_app (goodIn_of _ (by decide +kernel)) ggX10_fewestStages_X10_isKept
theorem dX10_fewestStages_0 : decode cX10_fewestStages 0 = .ok (.aload_n 0, 1) := by decide +kernel
theorem dX10_fewestStages_1 : decode cX10_fewestStages 1 = .ok (.iload_n 1, 1) := by decide +kernel
theorem dX10_fewestStages_2 : decode cX10_fewestStages 2 = .ok (.invokevirtual 264, 3) := by decide +kernel
theorem dX10_fewestStages_5 : decode cX10_fewestStages 5 = .ok (.ifCond .eq 6, 3) := by decide +kernel
theorem dX10_fewestStages_8 : decode cX10_fewestStages 8 = .ok (.bipush (-2), 2) := by decide +kernel
theorem dX10_fewestStages_10 : decode cX10_fewestStages 10 = .ok (.ireturn, 1) := by decide +kernel
theorem dX10_fewestStages_11 : decode cX10_fewestStages 11 = .ok (.aload_n 0, 1) := by decide +kernel
theorem dX10_fewestStages_12 : decode cX10_fewestStages 12 = .ok (.iload_n 2, 1) := by decide +kernel
theorem dX10_fewestStages_13 : decode cX10_fewestStages 13 = .ok (.invokevirtual 163, 3) := by decide +kernel
theorem dX10_fewestStages_16 : decode cX10_fewestStages 16 = .ok (.ifCond .eq 5, 3) := by decide +kernel
theorem dX10_fewestStages_19 : decode cX10_fewestStages 19 = .ok (.iconst (-1), 1) := by decide +kernel
theorem dX10_fewestStages_20 : decode cX10_fewestStages 20 = .ok (.ireturn, 1) := by decide +kernel
theorem dX10_fewestStages_21 : decode cX10_fewestStages 21 = .ok (.aload_n 0, 1) := by decide +kernel
theorem dX10_fewestStages_22 : decode cX10_fewestStages 22 = .ok (.iload_n 1, 1) := by decide +kernel
theorem dX10_fewestStages_23 : decode cX10_fewestStages 23 = .ok (.iload_n 2, 1) := by decide +kernel
theorem dX10_fewestStages_24 : decode cX10_fewestStages 24 = .ok (.invokevirtual 258, 3) := by decide +kernel
theorem dX10_fewestStages_27 : decode cX10_fewestStages 27 = .ok (.aload_n 0, 1) := by decide +kernel
theorem dX10_fewestStages_28 : decode cX10_fewestStages 28 = .ok (.iconst 0, 1) := by decide +kernel
theorem dX10_fewestStages_29 : decode cX10_fewestStages 29 = .ok (.invokevirtual 270, 3) := by decide +kernel
theorem dX10_fewestStages_32 : decode cX10_fewestStages 32 = .ok (.ifCond .ne 7, 3) := by decide +kernel
theorem dX10_fewestStages_35 : decode cX10_fewestStages 35 = .ok (.iconst 1, 1) := by decide +kernel
theorem dX10_fewestStages_36 : decode cX10_fewestStages 36 = .ok (.goto 37, 3) := by decide +kernel
theorem dX10_fewestStages_39 : decode cX10_fewestStages 39 = .ok (.aload_n 0, 1) := by decide +kernel
theorem dX10_fewestStages_40 : decode cX10_fewestStages 40 = .ok (.iconst 1, 1) := by decide +kernel
theorem dX10_fewestStages_41 : decode cX10_fewestStages 41 = .ok (.invokevirtual 270, 3) := by decide +kernel
theorem dX10_fewestStages_44 : decode cX10_fewestStages 44 = .ok (.ifCond .ne 7, 3) := by decide +kernel
theorem dX10_fewestStages_47 : decode cX10_fewestStages 47 = .ok (.iconst 2, 1) := by decide +kernel
theorem dX10_fewestStages_48 : decode cX10_fewestStages 48 = .ok (.goto 25, 3) := by decide +kernel
theorem dX10_fewestStages_51 : decode cX10_fewestStages 51 = .ok (.aload_n 0, 1) := by decide +kernel
theorem dX10_fewestStages_52 : decode cX10_fewestStages 52 = .ok (.iconst 2, 1) := by decide +kernel
theorem dX10_fewestStages_53 : decode cX10_fewestStages 53 = .ok (.invokevirtual 270, 3) := by decide +kernel
theorem dX10_fewestStages_56 : decode cX10_fewestStages 56 = .ok (.ifCond .eq 11, 3) := by decide +kernel
theorem dX10_fewestStages_59 : decode cX10_fewestStages 59 = .ok (.aload_n 0, 1) := by decide +kernel
theorem dX10_fewestStages_60 : decode cX10_fewestStages 60 = .ok (.iconst 3, 1) := by decide +kernel
theorem dX10_fewestStages_61 : decode cX10_fewestStages 61 = .ok (.invokevirtual 270, 3) := by decide +kernel
theorem dX10_fewestStages_64 : decode cX10_fewestStages 64 = .ok (.ifCond .ne 7, 3) := by decide +kernel
theorem dX10_fewestStages_67 : decode cX10_fewestStages 67 = .ok (.iconst 3, 1) := by decide +kernel
theorem dX10_fewestStages_68 : decode cX10_fewestStages 68 = .ok (.goto 5, 3) := by decide +kernel
theorem dX10_fewestStages_71 : decode cX10_fewestStages 71 = .ok (.bipush (-5), 2) := by decide +kernel
theorem dX10_fewestStages_73 : decode cX10_fewestStages 73 = .ok (.ireturn, 1) := by decide +kernel
set_option maxRecDepth 20000 in
theorem ggX10_fewestPremises_X10_isBad : GoodIn wsX10_fewestPremises wsX10_isBad := goodIn_r _ [5, 6, 7, 4, 8, 9, 10, 11, 12, 13, 14, 15, 16, 17, 18, 19, 20, 144, 145, 146, 147, 148, 149, 150, 151, 152, 153, 154, 155, 156, 157, 158, 159, 160, 161, 162, 163, 164, 165, 166, 167, 168] (by decide +kernel) (by decide +kernel)
set_option maxRecDepth 20000 in
theorem gX10_fewestPremises_X10_isBad : GoodIn wsX10_fewestPremises (wsV RX10 264 RX10 yX10_isBad wsX10_isBad) := goodIn_app (goodIn_of _ (by decide +kernel)) ggX10_fewestPremises_X10_isBad
set_option maxRecDepth 20000 in
theorem ggX10_fewestPremises_X10_noClaim : GoodIn wsX10_fewestPremises wsX10_noClaim := goodIn_r _ [16, 17, 18, 19, 4, 20, 6, 7, 8, 144, 145, 146, 147, 148, 149, 150, 151, 152, 153, 154, 155, 156, 157, 158, 159, 160, 161, 162, 163, 164, 165, 166, 167, 168] (by decide +kernel) (by decide +kernel)
set_option maxRecDepth 20000 in
theorem gX10_fewestPremises_X10_noClaim : GoodIn wsX10_fewestPremises (wsV RX10 163 RX10 yX10_noClaim wsX10_noClaim) := goodIn_app (goodIn_of _ (by decide +kernel)) ggX10_fewestPremises_X10_noClaim
set_option maxRecDepth 20000 in
theorem ggX10_fewestPremises_X10_isFollowing : GoodIn wsX10_fewestPremises wsX10_isFollowing := goodIn_r _ [24, 25, 26, 27, 4, 28, 29, 30, 31, 32, 33, 34, 35, 36, 37, 38, 39, 40, 41, 42, 43, 44, 45, 46, 47, 48, 49, 50, 51, 52, 53, 54, 55, 56, 57, 58, 59, 60, 61, 62, 63, 64, 65, 66, 67, 68, 69, 70, 71, 72, 73, 17, 74, 75, 76, 77, 78, 79, 80, 81, 82, 83, 84, 85, 86, 87, 88, 89, 90, 91, 92, 93, 94, 95, 96, 97, 98, 99, 100, 101, 102, 103, 104, 105, 106, 107, 108, 109, 110, 111, 112, 113, 114, 115, 116, 117, 118, 119, 120, 121, 122, 123, 124, 125, 126, 127, 128, 129, 130, 131, 132, 133, 134, 135, 136, 137, 138, 139, 140, 144, 145, 146, 147, 148, 149, 150, 151, 152, 153, 154, 155, 156, 157, 158, 159, 160, 161, 162, 163, 164, 165, 166, 167, 168] (by decide +kernel) (by decide +kernel)
set_option maxRecDepth 20000 in
theorem gX10_fewestPremises_X10_isFollowing : GoodIn wsX10_fewestPremises (wsV RX10 267 RX10 yX10_isFollowing wsX10_isFollowing) := goodIn_app (goodIn_of _ (by decide +kernel)) ggX10_fewestPremises_X10_isFollowing
set_option maxRecDepth 20000 in
theorem ggX10_fewestPremises_X10_bits : GoodIn wsX10_fewestPremises wsX10_bits := goodIn_r _ [143] (by decide +kernel) (by decide +kernel)
set_option maxRecDepth 20000 in
theorem gX10_fewestPremises_X10_bits : GoodIn wsX10_fewestPremises (va_wsS RX10 82 yX10_bits wsX10_bits) := goodIn_app (goodIn_of _ (by decide +kernel)) ggX10_fewestPremises_X10_bits
theorem dX10_fewestPremises_0 : decode cX10_fewestPremises 0 = .ok (.aload_n 0, 1) := by decide +kernel
theorem dX10_fewestPremises_1 : decode cX10_fewestPremises 1 = .ok (.iload_n 1, 1) := by decide +kernel
theorem dX10_fewestPremises_2 : decode cX10_fewestPremises 2 = .ok (.invokevirtual 264, 3) := by decide +kernel
theorem dX10_fewestPremises_5 : decode cX10_fewestPremises 5 = .ok (.ifCond .eq 6, 3) := by decide +kernel
theorem dX10_fewestPremises_8 : decode cX10_fewestPremises 8 = .ok (.bipush (-2), 2) := by decide +kernel
theorem dX10_fewestPremises_10 : decode cX10_fewestPremises 10 = .ok (.ireturn, 1) := by decide +kernel
theorem dX10_fewestPremises_11 : decode cX10_fewestPremises 11 = .ok (.aload_n 0, 1) := by decide +kernel
theorem dX10_fewestPremises_12 : decode cX10_fewestPremises 12 = .ok (.iload_n 2, 1) := by decide +kernel
theorem dX10_fewestPremises_13 : decode cX10_fewestPremises 13 = .ok (.invokevirtual 163, 3) := by decide +kernel
theorem dX10_fewestPremises_16 : decode cX10_fewestPremises 16 = .ok (.ifCond .eq 5, 3) := by decide +kernel
theorem dX10_fewestPremises_19 : decode cX10_fewestPremises 19 = .ok (.iconst (-1), 1) := by decide +kernel
theorem dX10_fewestPremises_20 : decode cX10_fewestPremises 20 = .ok (.ireturn, 1) := by decide +kernel
theorem dX10_fewestPremises_21 : decode cX10_fewestPremises 21 = .ok (.aload_n 0, 1) := by decide +kernel
theorem dX10_fewestPremises_22 : decode cX10_fewestPremises 22 = .ok (.iload_n 1, 1) := by decide +kernel
theorem dX10_fewestPremises_23 : decode cX10_fewestPremises 23 = .ok (.iload_n 2, 1) := by decide +kernel
theorem dX10_fewestPremises_24 : decode cX10_fewestPremises 24 = .ok (.invokevirtual 267, 3) := by decide +kernel
theorem dX10_fewestPremises_27 : decode cX10_fewestPremises 27 = .ok (.ifCond .ne 6, 3) := by decide +kernel
theorem dX10_fewestPremises_30 : decode cX10_fewestPremises 30 = .ok (.bipush (-4), 2) := by decide +kernel
theorem dX10_fewestPremises_32 : decode cX10_fewestPremises 32 = .ok (.ireturn, 1) := by decide +kernel
theorem dX10_fewestPremises_33 : decode cX10_fewestPremises 33 = .ok (.iload_n 1, 1) := by decide +kernel
theorem dX10_fewestPremises_34 : decode cX10_fewestPremises 34 = .ok (.istore_n 3, 1) := by decide +kernel
theorem dX10_fewestPremises_35 : decode cX10_fewestPremises 35 = .ok (.iconst 0, 1) := by decide +kernel
theorem dX10_fewestPremises_36 : decode cX10_fewestPremises 36 = .ok (.istore 4, 2) := by decide +kernel
theorem dX10_fewestPremises_38 : decode cX10_fewestPremises 38 = .ok (.iload 4, 2) := by decide +kernel
theorem dX10_fewestPremises_40 : decode cX10_fewestPremises 40 = .ok (.iload_n 1, 1) := by decide +kernel
theorem dX10_fewestPremises_41 : decode cX10_fewestPremises 41 = .ok (.if_icmp .ge 43, 3) := by decide +kernel
theorem dX10_fewestPremises_44 : decode cX10_fewestPremises 44 = .ok (.iload 4, 2) := by decide +kernel
theorem dX10_fewestPremises_46 : decode cX10_fewestPremises 46 = .ok (.iload_n 1, 1) := by decide +kernel
theorem dX10_fewestPremises_47 : decode cX10_fewestPremises 47 = .ok (.iconst (-1), 1) := by decide +kernel
theorem dX10_fewestPremises_48 : decode cX10_fewestPremises 48 = .ok (.ixor, 1) := by decide +kernel
theorem dX10_fewestPremises_49 : decode cX10_fewestPremises 49 = .ok (.iand, 1) := by decide +kernel
theorem dX10_fewestPremises_50 : decode cX10_fewestPremises 50 = .ok (.ifCond .ne 28, 3) := by decide +kernel
theorem dX10_fewestPremises_53 : decode cX10_fewestPremises 53 = .ok (.iload 4, 2) := by decide +kernel
theorem dX10_fewestPremises_55 : decode cX10_fewestPremises 55 = .ok (.invokestatic 82, 3) := by decide +kernel
theorem dX10_fewestPremises_58 : decode cX10_fewestPremises 58 = .ok (.iload_n 3, 1) := by decide +kernel
theorem dX10_fewestPremises_59 : decode cX10_fewestPremises 59 = .ok (.invokestatic 82, 3) := by decide +kernel
theorem dX10_fewestPremises_62 : decode cX10_fewestPremises 62 = .ok (.if_icmp .ge 16, 3) := by decide +kernel
theorem dX10_fewestPremises_65 : decode cX10_fewestPremises 65 = .ok (.aload_n 0, 1) := by decide +kernel
theorem dX10_fewestPremises_66 : decode cX10_fewestPremises 66 = .ok (.iload 4, 2) := by decide +kernel
theorem dX10_fewestPremises_68 : decode cX10_fewestPremises 68 = .ok (.iload_n 2, 1) := by decide +kernel
theorem dX10_fewestPremises_69 : decode cX10_fewestPremises 69 = .ok (.invokevirtual 267, 3) := by decide +kernel
theorem dX10_fewestPremises_72 : decode cX10_fewestPremises 72 = .ok (.ifCond .eq 6, 3) := by decide +kernel
theorem dX10_fewestPremises_75 : decode cX10_fewestPremises 75 = .ok (.iload 4, 2) := by decide +kernel
theorem dX10_fewestPremises_77 : decode cX10_fewestPremises 77 = .ok (.istore_n 3, 1) := by decide +kernel
theorem dX10_fewestPremises_78 : decode cX10_fewestPremises 78 = .ok (.iinc 4 1, 3) := by decide +kernel
theorem dX10_fewestPremises_81 : decode cX10_fewestPremises 81 = .ok (.goto (-43), 3) := by decide +kernel
theorem dX10_fewestPremises_84 : decode cX10_fewestPremises 84 = .ok (.iload_n 3, 1) := by decide +kernel
theorem dX10_fewestPremises_85 : decode cX10_fewestPremises 85 = .ok (.ireturn, 1) := by decide +kernel
set_option maxRecDepth 20000 in
theorem ggX10_relation_X10_noClaim : GoodIn wsX10_relation wsX10_noClaim := goodIn_r _ [5, 6, 7, 8, 4, 9, 10, 11, 12, 133, 134, 135, 136, 137, 138, 139, 140, 141, 142, 143, 144, 145, 146, 147, 148, 149, 150, 151, 152, 153, 154, 155, 156, 157] (by decide +kernel) (by decide +kernel)
set_option maxRecDepth 20000 in
theorem gX10_relation_X10_noClaim : GoodIn wsX10_relation (wsV RX10 163 RX10 yX10_noClaim wsX10_noClaim) := goodIn_app (goodIn_of _ (by decide +kernel)) ggX10_relation_X10_noClaim
set_option maxRecDepth 20000 in
theorem ggX10_relation_X10_isFollowing : GoodIn wsX10_relation wsX10_isFollowing := goodIn_r _ [16, 17, 18, 19, 4, 20, 21, 22, 23, 24, 25, 26, 27, 28, 29, 30, 31, 32, 33, 34, 35, 36, 37, 38, 39, 40, 41, 42, 43, 44, 45, 46, 47, 48, 49, 50, 51, 52, 53, 54, 55, 56, 57, 58, 59, 60, 61, 62, 63, 64, 65, 6, 66, 67, 68, 69, 70, 71, 72, 73, 74, 75, 76, 77, 78, 79, 80, 81, 82, 83, 84, 85, 86, 87, 88, 89, 90, 91, 92, 93, 94, 95, 96, 97, 98, 99, 100, 101, 102, 103, 104, 105, 106, 107, 108, 109, 110, 111, 112, 113, 114, 115, 116, 117, 118, 119, 120, 121, 122, 123, 124, 125, 126, 127, 128, 129, 130, 131, 132, 133, 134, 135, 136, 137, 138, 139, 140, 141, 142, 143, 144, 145, 146, 147, 148, 149, 150, 151, 152, 153, 154, 155, 156, 157] (by decide +kernel) (by decide +kernel)
set_option maxRecDepth 20000 in
theorem gX10_relation_X10_isFollowing : GoodIn wsX10_relation (wsV RX10 267 RX10 yX10_isFollowing wsX10_isFollowing) := goodIn_app (goodIn_of _ (by decide +kernel)) ggX10_relation_X10_isFollowing
theorem dX10_relation_0 : decode cX10_relation 0 = .ok (.aload_n 0, 1) := by decide +kernel
theorem dX10_relation_1 : decode cX10_relation 1 = .ok (.iload_n 1, 1) := by decide +kernel
theorem dX10_relation_2 : decode cX10_relation 2 = .ok (.invokevirtual 163, 3) := by decide +kernel
theorem dX10_relation_5 : decode cX10_relation 5 = .ok (.ifCond .ne 11, 3) := by decide +kernel
theorem dX10_relation_8 : decode cX10_relation 8 = .ok (.aload_n 0, 1) := by decide +kernel
theorem dX10_relation_9 : decode cX10_relation 9 = .ok (.iload_n 2, 1) := by decide +kernel
theorem dX10_relation_10 : decode cX10_relation 10 = .ok (.invokevirtual 163, 3) := by decide +kernel
theorem dX10_relation_13 : decode cX10_relation 13 = .ok (.ifCond .eq 5, 3) := by decide +kernel
theorem dX10_relation_16 : decode cX10_relation 16 = .ok (.iconst (-1), 1) := by decide +kernel
theorem dX10_relation_17 : decode cX10_relation 17 = .ok (.ireturn, 1) := by decide +kernel
theorem dX10_relation_18 : decode cX10_relation 18 = .ok (.aload_n 0, 1) := by decide +kernel
theorem dX10_relation_19 : decode cX10_relation 19 = .ok (.iconst 1, 1) := by decide +kernel
theorem dX10_relation_20 : decode cX10_relation 20 = .ok (.iload_n 1, 1) := by decide +kernel
theorem dX10_relation_21 : decode cX10_relation 21 = .ok (.ishl, 1) := by decide +kernel
theorem dX10_relation_22 : decode cX10_relation 22 = .ok (.iload_n 2, 1) := by decide +kernel
theorem dX10_relation_23 : decode cX10_relation 23 = .ok (.invokevirtual 267, 3) := by decide +kernel
theorem dX10_relation_26 : decode cX10_relation 26 = .ok (.ifCond .eq 7, 3) := by decide +kernel
theorem dX10_relation_29 : decode cX10_relation 29 = .ok (.iconst 1, 1) := by decide +kernel
theorem dX10_relation_30 : decode cX10_relation 30 = .ok (.goto 4, 3) := by decide +kernel
theorem dX10_relation_33 : decode cX10_relation 33 = .ok (.iconst 0, 1) := by decide +kernel
theorem dX10_relation_34 : decode cX10_relation 34 = .ok (.aload_n 0, 1) := by decide +kernel
theorem dX10_relation_35 : decode cX10_relation 35 = .ok (.iconst 1, 1) := by decide +kernel
theorem dX10_relation_36 : decode cX10_relation 36 = .ok (.iload_n 2, 1) := by decide +kernel
theorem dX10_relation_37 : decode cX10_relation 37 = .ok (.ishl, 1) := by decide +kernel
theorem dX10_relation_38 : decode cX10_relation 38 = .ok (.iload_n 1, 1) := by decide +kernel
theorem dX10_relation_39 : decode cX10_relation 39 = .ok (.invokevirtual 267, 3) := by decide +kernel
theorem dX10_relation_42 : decode cX10_relation 42 = .ok (.ifCond .eq 7, 3) := by decide +kernel
theorem dX10_relation_45 : decode cX10_relation 45 = .ok (.iconst 2, 1) := by decide +kernel
theorem dX10_relation_46 : decode cX10_relation 46 = .ok (.goto 4, 3) := by decide +kernel
theorem dX10_relation_49 : decode cX10_relation 49 = .ok (.iconst 0, 1) := by decide +kernel
theorem dX10_relation_50 : decode cX10_relation 50 = .ok (.iadd, 1) := by decide +kernel
theorem dX10_relation_51 : decode cX10_relation 51 = .ok (.ireturn, 1) := by decide +kernel
theorem dX10_undo_0 : decode cX10_undo 0 = .ok (.aload_n 0, 1) := by decide +kernel
theorem dX10_undo_1 : decode cX10_undo 1 = .ok (.getfield 74, 3) := by decide +kernel
theorem dX10_undo_4 : decode cX10_undo 4 = .ok (.ifCond .ne 6, 3) := by decide +kernel
theorem dX10_undo_7 : decode cX10_undo 7 = .ok (.bipush (-5), 2) := by decide +kernel
theorem dX10_undo_9 : decode cX10_undo 9 = .ok (.ireturn, 1) := by decide +kernel
theorem dX10_undo_10 : decode cX10_undo 10 = .ok (.aload_n 0, 1) := by decide +kernel
theorem dX10_undo_11 : decode cX10_undo 11 = .ok (.dup, 1) := by decide +kernel
theorem dX10_undo_12 : decode cX10_undo 12 = .ok (.getfield 74, 3) := by decide +kernel
theorem dX10_undo_15 : decode cX10_undo 15 = .ok (.iconst 1, 1) := by decide +kernel
theorem dX10_undo_16 : decode cX10_undo 16 = .ok (.isub, 1) := by decide +kernel
theorem dX10_undo_17 : decode cX10_undo 17 = .ok (.putfield 74, 3) := by decide +kernel
theorem dX10_undo_20 : decode cX10_undo 20 = .ok (.iconst 0, 1) := by decide +kernel
theorem dX10_undo_21 : decode cX10_undo 21 = .ok (.istore_n 1, 1) := by decide +kernel
theorem dX10_undo_22 : decode cX10_undo 22 = .ok (.iload_n 1, 1) := by decide +kernel
theorem dX10_undo_23 : decode cX10_undo 23 = .ok (.sipush 172, 3) := by decide +kernel
theorem dX10_undo_26 : decode cX10_undo 26 = .ok (.if_icmp .ge 30, 3) := by decide +kernel
theorem dX10_undo_29 : decode cX10_undo 29 = .ok (.aload_n 0, 1) := by decide +kernel
theorem dX10_undo_30 : decode cX10_undo 30 = .ok (.getfield 7, 3) := by decide +kernel
theorem dX10_undo_33 : decode cX10_undo 33 = .ok (.iload_n 1, 1) := by decide +kernel
theorem dX10_undo_34 : decode cX10_undo 34 = .ok (.aload_n 0, 1) := by decide +kernel
theorem dX10_undo_35 : decode cX10_undo 35 = .ok (.getfield 13, 3) := by decide +kernel
theorem dX10_undo_38 : decode cX10_undo 38 = .ok (.sipush 172, 3) := by decide +kernel
theorem dX10_undo_41 : decode cX10_undo 41 = .ok (.aload_n 0, 1) := by decide +kernel
theorem dX10_undo_42 : decode cX10_undo 42 = .ok (.getfield 74, 3) := by decide +kernel
theorem dX10_undo_45 : decode cX10_undo 45 = .ok (.imul, 1) := by decide +kernel
theorem dX10_undo_46 : decode cX10_undo 46 = .ok (.iload_n 1, 1) := by decide +kernel
theorem dX10_undo_47 : decode cX10_undo 47 = .ok (.iadd, 1) := by decide +kernel
theorem dX10_undo_48 : decode cX10_undo 48 = .ok (.iaload, 1) := by decide +kernel
theorem dX10_undo_49 : decode cX10_undo 49 = .ok (.iastore, 1) := by decide +kernel
theorem dX10_undo_50 : decode cX10_undo 50 = .ok (.iinc 1 1, 3) := by decide +kernel
theorem dX10_undo_53 : decode cX10_undo 53 = .ok (.goto (-31), 3) := by decide +kernel
theorem dX10_undo_56 : decode cX10_undo 56 = .ok (.aload_n 0, 1) := by decide +kernel
theorem dX10_undo_57 : decode cX10_undo 57 = .ok (.getfield 74, 3) := by decide +kernel
theorem dX10_undo_60 : decode cX10_undo 60 = .ok (.ireturn, 1) := by decide +kernel
theorem dX10_keep_0 : decode cX10_keep 0 = .ok (.iconst 0, 1) := by decide +kernel
theorem dX10_keep_1 : decode cX10_keep 1 = .ok (.istore_n 1, 1) := by decide +kernel
theorem dX10_keep_2 : decode cX10_keep 2 = .ok (.iload_n 1, 1) := by decide +kernel
theorem dX10_keep_3 : decode cX10_keep 3 = .ok (.sipush 172, 3) := by decide +kernel
theorem dX10_keep_6 : decode cX10_keep 6 = .ok (.if_icmp .ge 21, 3) := by decide +kernel
theorem dX10_keep_9 : decode cX10_keep 9 = .ok (.aload_n 0, 1) := by decide +kernel
theorem dX10_keep_10 : decode cX10_keep 10 = .ok (.getfield 16, 3) := by decide +kernel
theorem dX10_keep_13 : decode cX10_keep 13 = .ok (.iload_n 1, 1) := by decide +kernel
theorem dX10_keep_14 : decode cX10_keep 14 = .ok (.aload_n 0, 1) := by decide +kernel
theorem dX10_keep_15 : decode cX10_keep 15 = .ok (.getfield 7, 3) := by decide +kernel
theorem dX10_keep_18 : decode cX10_keep 18 = .ok (.iload_n 1, 1) := by decide +kernel
theorem dX10_keep_19 : decode cX10_keep 19 = .ok (.iaload, 1) := by decide +kernel
theorem dX10_keep_20 : decode cX10_keep 20 = .ok (.iastore, 1) := by decide +kernel
theorem dX10_keep_21 : decode cX10_keep 21 = .ok (.iinc 1 1, 3) := by decide +kernel
theorem dX10_keep_24 : decode cX10_keep 24 = .ok (.goto (-22), 3) := by decide +kernel
theorem dX10_keep_27 : decode cX10_keep 27 = .ok (.aload_n 0, 1) := by decide +kernel
theorem dX10_keep_28 : decode cX10_keep 28 = .ok (.iconst 1, 1) := by decide +kernel
theorem dX10_keep_29 : decode cX10_keep 29 = .ok (.putfield 273, 3) := by decide +kernel
theorem dX10_keep_32 : decode cX10_keep 32 = .ok (.aload_n 0, 1) := by decide +kernel
theorem dX10_keep_33 : decode cX10_keep 33 = .ok (.getfield 7, 3) := by decide +kernel
theorem dX10_keep_36 : decode cX10_keep 36 = .ok (.bipush 16, 2) := by decide +kernel
theorem dX10_keep_38 : decode cX10_keep 38 = .ok (.iaload, 1) := by decide +kernel
theorem dX10_keep_39 : decode cX10_keep 39 = .ok (.ireturn, 1) := by decide +kernel
set_option maxRecDepth 20000 in
theorem ggX10_restore_X10_record : GoodIn wsX10_restore wsX10_record := goodIn_r _ [8, 9, 10, 2, 11, 12, 13, 14, 15, 16, 17, 18, 19, 20, 21, 22, 23, 24, 25, 26, 27, 28, 29, 30, 31, 32, 33, 34, 35] (by decide +kernel) (by decide +kernel)
set_option maxRecDepth 20000 in
theorem gX10_restore_X10_record : GoodIn wsX10_restore (wsV RX10 89 RX10 yX10_record wsX10_record) := goodIn_app (goodIn_of _ (by decide +kernel)) ggX10_restore_X10_record
theorem dX10_restore_0 : decode cX10_restore 0 = .ok (.aload_n 0, 1) := by decide +kernel
theorem dX10_restore_1 : decode cX10_restore 1 = .ok (.getfield 273, 3) := by decide +kernel
theorem dX10_restore_4 : decode cX10_restore 4 = .ok (.ifCond .ne 6, 3) := by decide +kernel
theorem dX10_restore_7 : decode cX10_restore 7 = .ok (.bipush (-5), 2) := by decide +kernel
theorem dX10_restore_9 : decode cX10_restore 9 = .ok (.ireturn, 1) := by decide +kernel
theorem dX10_restore_10 : decode cX10_restore 10 = .ok (.aload_n 0, 1) := by decide +kernel
theorem dX10_restore_11 : decode cX10_restore 11 = .ok (.invokevirtual 89, 3) := by decide +kernel
theorem dX10_restore_14 : decode cX10_restore 14 = .ok (.iconst 0, 1) := by decide +kernel
theorem dX10_restore_15 : decode cX10_restore 15 = .ok (.istore_n 1, 1) := by decide +kernel
theorem dX10_restore_16 : decode cX10_restore 16 = .ok (.iload_n 1, 1) := by decide +kernel
theorem dX10_restore_17 : decode cX10_restore 17 = .ok (.sipush 172, 3) := by decide +kernel
theorem dX10_restore_20 : decode cX10_restore 20 = .ok (.if_icmp .ge 21, 3) := by decide +kernel
theorem dX10_restore_23 : decode cX10_restore 23 = .ok (.aload_n 0, 1) := by decide +kernel
theorem dX10_restore_24 : decode cX10_restore 24 = .ok (.getfield 7, 3) := by decide +kernel
theorem dX10_restore_27 : decode cX10_restore 27 = .ok (.iload_n 1, 1) := by decide +kernel
theorem dX10_restore_28 : decode cX10_restore 28 = .ok (.aload_n 0, 1) := by decide +kernel
theorem dX10_restore_29 : decode cX10_restore 29 = .ok (.getfield 16, 3) := by decide +kernel
theorem dX10_restore_32 : decode cX10_restore 32 = .ok (.iload_n 1, 1) := by decide +kernel
theorem dX10_restore_33 : decode cX10_restore 33 = .ok (.iaload, 1) := by decide +kernel
theorem dX10_restore_34 : decode cX10_restore 34 = .ok (.iastore, 1) := by decide +kernel
theorem dX10_restore_35 : decode cX10_restore 35 = .ok (.iinc 1 1, 3) := by decide +kernel
theorem dX10_restore_38 : decode cX10_restore 38 = .ok (.goto (-22), 3) := by decide +kernel
theorem dX10_restore_41 : decode cX10_restore 41 = .ok (.aload_n 0, 1) := by decide +kernel
theorem dX10_restore_42 : decode cX10_restore 42 = .ok (.getfield 7, 3) := by decide +kernel
theorem dX10_restore_45 : decode cX10_restore 45 = .ok (.bipush 16, 2) := by decide +kernel
theorem dX10_restore_47 : decode cX10_restore 47 = .ok (.iaload, 1) := by decide +kernel
theorem dX10_restore_48 : decode cX10_restore 48 = .ok (.ireturn, 1) := by decide +kernel
set_option maxRecDepth 20000 in
theorem ggX10_stage_X10_noStage : GoodIn wsX10_stage wsX10_noStage := goodIn_r _ [7, 1, 8, 9, 6, 10, 30, 31, 32, 33, 34, 35, 36, 37, 38, 39, 40, 41, 42, 43, 44, 45, 46, 47, 48, 49, 50, 51, 52, 53, 54] (by decide +kernel) (by decide +kernel)
set_option maxRecDepth 20000 in
theorem gX10_stage_X10_noStage : GoodIn wsX10_stage (wsV RX10 86 RX10 yX10_noStage wsX10_noStage) := goodIn_app (goodIn_of _ (by decide +kernel)) ggX10_stage_X10_noStage
set_option maxRecDepth 20000 in
theorem ggX10_stage_X10_leadingTo : GoodIn wsX10_stage wsX10_leadingTo := goodIn_r _ [14, 1, 15, 16, 17, 6, 18, 30, 31, 32, 33, 34, 35, 36, 37, 38, 39, 40, 41, 42, 43, 44, 45, 46, 47, 48, 49, 50, 51, 52, 53, 54] (by decide +kernel) (by decide +kernel)
set_option maxRecDepth 20000 in
theorem gX10_stage_X10_leadingTo : GoodIn wsX10_stage (wsV RX10 96 RX10 yX10_leadingTo wsX10_leadingTo) := goodIn_app (goodIn_of _ (by decide +kernel)) ggX10_stage_X10_leadingTo
set_option maxRecDepth 20000 in
theorem ggX10_stage_X10_findsLike : GoodIn wsX10_stage wsX10_findsLike := goodIn_r _ [22, 1, 2, 23, 24, 25, 6, 26, 15, 16, 17, 18, 30, 31, 32, 33, 34, 35, 36, 37, 38, 39, 40, 41, 42, 43, 44, 45, 46, 47, 48, 49, 50, 51, 52, 53, 54] (by decide +kernel) (by decide +kernel)
set_option maxRecDepth 20000 in
theorem gX10_stage_X10_findsLike : GoodIn wsX10_stage (wsV RX10 113 RX10 yX10_findsLike wsX10_findsLike) := goodIn_app (goodIn_of _ (by decide +kernel)) ggX10_stage_X10_findsLike
set_option maxRecDepth 20000 in
theorem ggX10_stage_X10_lowest : GoodIn wsX10_stage wsX10_lowest := goodIn_r _ [29] (by decide +kernel) (by decide +kernel)
set_option maxRecDepth 20000 in
theorem gX10_stage_X10_lowest : GoodIn wsX10_stage (va_wsS RX10 116 yX10_lowest wsX10_lowest) := goodIn_app (goodIn_of _ (by decide +kernel)) ggX10_stage_X10_lowest
theorem dX10_stage_0 : decode cX10_stage 0 = .ok (.aload_n 0, 1) := by decide +kernel
theorem dX10_stage_1 : decode cX10_stage 1 = .ok (.iload_n 1, 1) := by decide +kernel
theorem dX10_stage_2 : decode cX10_stage 2 = .ok (.invokevirtual 86, 3) := by decide +kernel
theorem dX10_stage_5 : decode cX10_stage 5 = .ok (.ifCond .eq 5, 3) := by decide +kernel
theorem dX10_stage_8 : decode cX10_stage 8 = .ok (.iconst (-1), 1) := by decide +kernel
theorem dX10_stage_9 : decode cX10_stage 9 = .ok (.ireturn, 1) := by decide +kernel
theorem dX10_stage_10 : decode cX10_stage 10 = .ok (.iload_n 2, 1) := by decide +kernel
theorem dX10_stage_11 : decode cX10_stage 11 = .ok (.tableswitch 68 0 3 #[29, 38, 44, 54], 29) := by decide +kernel
theorem dX10_stage_40 : decode cX10_stage 40 = .ok (.aload_n 0, 1) := by decide +kernel
theorem dX10_stage_41 : decode cX10_stage 41 = .ok (.getfield 7, 3) := by decide +kernel
theorem dX10_stage_44 : decode cX10_stage 44 = .ok (.iconst 0, 1) := by decide +kernel
theorem dX10_stage_45 : decode cX10_stage 45 = .ok (.iload_n 1, 1) := by decide +kernel
theorem dX10_stage_46 : decode cX10_stage 46 = .ok (.iadd, 1) := by decide +kernel
theorem dX10_stage_47 : decode cX10_stage 47 = .ok (.iaload, 1) := by decide +kernel
theorem dX10_stage_48 : decode cX10_stage 48 = .ok (.ireturn, 1) := by decide +kernel
theorem dX10_stage_49 : decode cX10_stage 49 = .ok (.aload_n 0, 1) := by decide +kernel
theorem dX10_stage_50 : decode cX10_stage 50 = .ok (.iload_n 1, 1) := by decide +kernel
theorem dX10_stage_51 : decode cX10_stage 51 = .ok (.invokevirtual 96, 3) := by decide +kernel
theorem dX10_stage_54 : decode cX10_stage 54 = .ok (.ireturn, 1) := by decide +kernel
theorem dX10_stage_55 : decode cX10_stage 55 = .ok (.aload_n 0, 1) := by decide +kernel
theorem dX10_stage_56 : decode cX10_stage 56 = .ok (.getfield 7, 3) := by decide +kernel
theorem dX10_stage_59 : decode cX10_stage 59 = .ok (.bipush 8, 2) := by decide +kernel
theorem dX10_stage_61 : decode cX10_stage 61 = .ok (.iload_n 1, 1) := by decide +kernel
theorem dX10_stage_62 : decode cX10_stage 62 = .ok (.iadd, 1) := by decide +kernel
theorem dX10_stage_63 : decode cX10_stage 63 = .ok (.iaload, 1) := by decide +kernel
theorem dX10_stage_64 : decode cX10_stage 64 = .ok (.ireturn, 1) := by decide +kernel
theorem dX10_stage_65 : decode cX10_stage 65 = .ok (.aload_n 0, 1) := by decide +kernel
theorem dX10_stage_66 : decode cX10_stage 66 = .ok (.invokevirtual 113, 3) := by decide +kernel
theorem dX10_stage_69 : decode cX10_stage 69 = .ok (.aload_n 0, 1) := by decide +kernel
theorem dX10_stage_70 : decode cX10_stage 70 = .ok (.getfield 19, 3) := by decide +kernel
theorem dX10_stage_73 : decode cX10_stage 73 = .ok (.iload_n 1, 1) := by decide +kernel
theorem dX10_stage_74 : decode cX10_stage 74 = .ok (.iaload, 1) := by decide +kernel
theorem dX10_stage_75 : decode cX10_stage 75 = .ok (.invokestatic 116, 3) := by decide +kernel
theorem dX10_stage_78 : decode cX10_stage 78 = .ok (.ireturn, 1) := by decide +kernel
theorem dX10_stage_79 : decode cX10_stage 79 = .ok (.bipush (-2), 2) := by decide +kernel
theorem dX10_stage_81 : decode cX10_stage 81 = .ok (.ireturn, 1) := by decide +kernel
set_option maxRecDepth 20000 in
theorem ggX10_alike_X10_noStage : GoodIn wsX10_alike wsX10_noStage := goodIn_r _ [6, 7, 8, 9, 5, 10, 23, 24, 25, 26, 27, 28, 29, 30, 31, 32, 33, 34, 35, 36, 37, 38, 39, 40, 41, 42, 43, 44, 45, 46, 47] (by decide +kernel) (by decide +kernel)
set_option maxRecDepth 20000 in
theorem gX10_alike_X10_noStage : GoodIn wsX10_alike (wsV RX10 86 RX10 yX10_noStage wsX10_noStage) := goodIn_app (goodIn_of _ (by decide +kernel)) ggX10_alike_X10_noStage
set_option maxRecDepth 20000 in
theorem ggX10_alike_X10_findsLike : GoodIn wsX10_alike wsX10_findsLike := goodIn_r _ [14, 7, 1, 15, 16, 17, 5, 18, 19, 20, 21, 22, 23, 24, 25, 26, 27, 28, 29, 30, 31, 32, 33, 34, 35, 36, 37, 38, 39, 40, 41, 42, 43, 44, 45, 46, 47] (by decide +kernel) (by decide +kernel)
set_option maxRecDepth 20000 in
theorem gX10_alike_X10_findsLike : GoodIn wsX10_alike (wsV RX10 113 RX10 yX10_findsLike wsX10_findsLike) := goodIn_app (goodIn_of _ (by decide +kernel)) ggX10_alike_X10_findsLike
theorem dX10_alike_0 : decode cX10_alike 0 = .ok (.aload_n 0, 1) := by decide +kernel
theorem dX10_alike_1 : decode cX10_alike 1 = .ok (.iload_n 1, 1) := by decide +kernel
theorem dX10_alike_2 : decode cX10_alike 2 = .ok (.invokevirtual 86, 3) := by decide +kernel
theorem dX10_alike_5 : decode cX10_alike 5 = .ok (.ifCond .ne 11, 3) := by decide +kernel
theorem dX10_alike_8 : decode cX10_alike 8 = .ok (.aload_n 0, 1) := by decide +kernel
theorem dX10_alike_9 : decode cX10_alike 9 = .ok (.iload_n 2, 1) := by decide +kernel
theorem dX10_alike_10 : decode cX10_alike 10 = .ok (.invokevirtual 86, 3) := by decide +kernel
theorem dX10_alike_13 : decode cX10_alike 13 = .ok (.ifCond .eq 5, 3) := by decide +kernel
theorem dX10_alike_16 : decode cX10_alike 16 = .ok (.iconst (-1), 1) := by decide +kernel
theorem dX10_alike_17 : decode cX10_alike 17 = .ok (.ireturn, 1) := by decide +kernel
theorem dX10_alike_18 : decode cX10_alike 18 = .ok (.aload_n 0, 1) := by decide +kernel
theorem dX10_alike_19 : decode cX10_alike 19 = .ok (.invokevirtual 113, 3) := by decide +kernel
theorem dX10_alike_22 : decode cX10_alike 22 = .ok (.aload_n 0, 1) := by decide +kernel
theorem dX10_alike_23 : decode cX10_alike 23 = .ok (.getfield 19, 3) := by decide +kernel
theorem dX10_alike_26 : decode cX10_alike 26 = .ok (.iload_n 1, 1) := by decide +kernel
theorem dX10_alike_27 : decode cX10_alike 27 = .ok (.iaload, 1) := by decide +kernel
theorem dX10_alike_28 : decode cX10_alike 28 = .ok (.iload_n 2, 1) := by decide +kernel
theorem dX10_alike_29 : decode cX10_alike 29 = .ok (.ishr, 1) := by decide +kernel
theorem dX10_alike_30 : decode cX10_alike 30 = .ok (.iconst 1, 1) := by decide +kernel
theorem dX10_alike_31 : decode cX10_alike 31 = .ok (.iand, 1) := by decide +kernel
theorem dX10_alike_32 : decode cX10_alike 32 = .ok (.ireturn, 1) := by decide +kernel
theorem dX10_finds_0 : decode cX10_finds 0 = .ok (.bipush 17, 2) := by decide +kernel
theorem dX10_finds_2 : decode cX10_finds 2 = .ok (.bipush 31, 2) := by decide +kernel
theorem dX10_finds_4 : decode cX10_finds 4 = .ok (.iload_n 1, 1) := by decide +kernel
theorem dX10_finds_5 : decode cX10_finds 5 = .ok (.imul, 1) := by decide +kernel
theorem dX10_finds_6 : decode cX10_finds 6 = .ok (.iadd, 1) := by decide +kernel
theorem dX10_finds_7 : decode cX10_finds 7 = .ok (.istore_n 2, 1) := by decide +kernel
theorem dX10_finds_8 : decode cX10_finds 8 = .ok (.iconst 1, 1) := by decide +kernel
theorem dX10_finds_9 : decode cX10_finds 9 = .ok (.istore_n 3, 1) := by decide +kernel
theorem dX10_finds_10 : decode cX10_finds 10 = .ok (.iload_n 3, 1) := by decide +kernel
theorem dX10_finds_11 : decode cX10_finds 11 = .ok (.aload_n 0, 1) := by decide +kernel
theorem dX10_finds_12 : decode cX10_finds 12 = .ok (.getfield 7, 3) := by decide +kernel
theorem dX10_finds_15 : decode cX10_finds 15 = .ok (.iload_n 2, 1) := by decide +kernel
theorem dX10_finds_16 : decode cX10_finds 16 = .ok (.iaload, 1) := by decide +kernel
theorem dX10_finds_17 : decode cX10_finds 17 = .ok (.if_icmp .gt 69, 3) := by decide +kernel
theorem dX10_finds_20 : decode cX10_finds 20 = .ok (.aload_n 0, 1) := by decide +kernel
theorem dX10_finds_21 : decode cX10_finds 21 = .ok (.getfield 7, 3) := by decide +kernel
theorem dX10_finds_24 : decode cX10_finds 24 = .ok (.iload_n 2, 1) := by decide +kernel
theorem dX10_finds_25 : decode cX10_finds 25 = .ok (.iload_n 3, 1) := by decide +kernel
theorem dX10_finds_26 : decode cX10_finds 26 = .ok (.iadd, 1) := by decide +kernel
theorem dX10_finds_27 : decode cX10_finds 27 = .ok (.iaload, 1) := by decide +kernel
theorem dX10_finds_28 : decode cX10_finds 28 = .ok (.istore 4, 2) := by decide +kernel
theorem dX10_finds_30 : decode cX10_finds 30 = .ok (.aload_n 0, 1) := by decide +kernel
theorem dX10_finds_31 : decode cX10_finds 31 = .ok (.getfield 63, 3) := by decide +kernel
theorem dX10_finds_34 : decode cX10_finds 34 = .ok (.iload_n 3, 1) := by decide +kernel
theorem dX10_finds_35 : decode cX10_finds 35 = .ok (.iload 4, 2) := by decide +kernel
theorem dX10_finds_37 : decode cX10_finds 37 = .ok (.bipush 6, 2) := by decide +kernel
theorem dX10_finds_39 : decode cX10_finds 39 = .ok (.if_icmp .ge 7, 3) := by decide +kernel
theorem dX10_finds_42 : decode cX10_finds 42 = .ok (.iload_n 3, 1) := by decide +kernel
theorem dX10_finds_43 : decode cX10_finds 43 = .ok (.goto 36, 3) := by decide +kernel
theorem dX10_finds_46 : decode cX10_finds 46 = .ok (.iload 4, 2) := by decide +kernel
theorem dX10_finds_48 : decode cX10_finds 48 = .ok (.bipush 6, 2) := by decide +kernel
theorem dX10_finds_50 : decode cX10_finds 50 = .ok (.if_icmp .ne 14, 3) := by decide +kernel
theorem dX10_finds_53 : decode cX10_finds 53 = .ok (.aload_n 0, 1) := by decide +kernel
theorem dX10_finds_54 : decode cX10_finds 54 = .ok (.getfield 63, 3) := by decide +kernel
theorem dX10_finds_57 : decode cX10_finds 57 = .ok (.iload_n 3, 1) := by decide +kernel
theorem dX10_finds_58 : decode cX10_finds 58 = .ok (.iconst 1, 1) := by decide +kernel
theorem dX10_finds_59 : decode cX10_finds 59 = .ok (.isub, 1) := by decide +kernel
theorem dX10_finds_60 : decode cX10_finds 60 = .ok (.iaload, 1) := by decide +kernel
theorem dX10_finds_61 : decode cX10_finds 61 = .ok (.goto 18, 3) := by decide +kernel
theorem dX10_finds_64 : decode cX10_finds 64 = .ok (.aload_n 0, 1) := by decide +kernel
theorem dX10_finds_65 : decode cX10_finds 65 = .ok (.getfield 63, 3) := by decide +kernel
theorem dX10_finds_68 : decode cX10_finds 68 = .ok (.aload_n 0, 1) := by decide +kernel
theorem dX10_finds_69 : decode cX10_finds 69 = .ok (.getfield 63, 3) := by decide +kernel
theorem dX10_finds_72 : decode cX10_finds 72 = .ok (.iload_n 3, 1) := by decide +kernel
theorem dX10_finds_73 : decode cX10_finds 73 = .ok (.iconst 1, 1) := by decide +kernel
theorem dX10_finds_74 : decode cX10_finds 74 = .ok (.isub, 1) := by decide +kernel
theorem dX10_finds_75 : decode cX10_finds 75 = .ok (.iaload, 1) := by decide +kernel
theorem dX10_finds_76 : decode cX10_finds 76 = .ok (.iconst 1, 1) := by decide +kernel
theorem dX10_finds_77 : decode cX10_finds 77 = .ok (.isub, 1) := by decide +kernel
theorem dX10_finds_78 : decode cX10_finds 78 = .ok (.iaload, 1) := by decide +kernel
theorem dX10_finds_79 : decode cX10_finds 79 = .ok (.iastore, 1) := by decide +kernel
theorem dX10_finds_80 : decode cX10_finds 80 = .ok (.iinc 3 1, 3) := by decide +kernel
theorem dX10_finds_83 : decode cX10_finds 83 = .ok (.goto (-73), 3) := by decide +kernel
theorem dX10_finds_86 : decode cX10_finds 86 = .ok (.return_, 1) := by decide +kernel
theorem dX10_areSame_0 : decode cX10_areSame 0 = .ok (.iload_n 2, 1) := by decide +kernel
theorem dX10_areSame_1 : decode cX10_areSame 1 = .ok (.aload_n 0, 1) := by decide +kernel
theorem dX10_areSame_2 : decode cX10_areSame 2 = .ok (.getfield 63, 3) := by decide +kernel
theorem dX10_areSame_5 : decode cX10_areSame 5 = .ok (.iload_n 2, 1) := by decide +kernel
theorem dX10_areSame_6 : decode cX10_areSame 6 = .ok (.iaload, 1) := by decide +kernel
theorem dX10_areSame_7 : decode cX10_areSame 7 = .ok (.isub, 1) := by decide +kernel
theorem dX10_areSame_8 : decode cX10_areSame 8 = .ok (.iload_n 3, 1) := by decide +kernel
theorem dX10_areSame_9 : decode cX10_areSame 9 = .ok (.aload_n 0, 1) := by decide +kernel
theorem dX10_areSame_10 : decode cX10_areSame 10 = .ok (.getfield 63, 3) := by decide +kernel
theorem dX10_areSame_13 : decode cX10_areSame 13 = .ok (.iload_n 3, 1) := by decide +kernel
theorem dX10_areSame_14 : decode cX10_areSame 14 = .ok (.iaload, 1) := by decide +kernel
theorem dX10_areSame_15 : decode cX10_areSame 15 = .ok (.isub, 1) := by decide +kernel
theorem dX10_areSame_16 : decode cX10_areSame 16 = .ok (.if_icmp .ne 7, 3) := by decide +kernel
theorem dX10_areSame_19 : decode cX10_areSame 19 = .ok (.iconst 1, 1) := by decide +kernel
theorem dX10_areSame_20 : decode cX10_areSame 20 = .ok (.goto 4, 3) := by decide +kernel
theorem dX10_areSame_23 : decode cX10_areSame 23 = .ok (.iconst 0, 1) := by decide +kernel
theorem dX10_areSame_24 : decode cX10_areSame 24 = .ok (.istore 4, 2) := by decide +kernel
theorem dX10_areSame_26 : decode cX10_areSame 26 = .ok (.iconst 0, 1) := by decide +kernel
theorem dX10_areSame_27 : decode cX10_areSame 27 = .ok (.istore 5, 2) := by decide +kernel
theorem dX10_areSame_29 : decode cX10_areSame 29 = .ok (.iload 5, 2) := by decide +kernel
theorem dX10_areSame_31 : decode cX10_areSame 31 = .ok (.iload_n 2, 1) := by decide +kernel
theorem dX10_areSame_32 : decode cX10_areSame 32 = .ok (.aload_n 0, 1) := by decide +kernel
theorem dX10_areSame_33 : decode cX10_areSame 33 = .ok (.getfield 63, 3) := by decide +kernel
theorem dX10_areSame_36 : decode cX10_areSame 36 = .ok (.iload_n 2, 1) := by decide +kernel
theorem dX10_areSame_37 : decode cX10_areSame 37 = .ok (.iaload, 1) := by decide +kernel
theorem dX10_areSame_38 : decode cX10_areSame 38 = .ok (.isub, 1) := by decide +kernel
theorem dX10_areSame_39 : decode cX10_areSame 39 = .ok (.if_icmp .gt 56, 3) := by decide +kernel
theorem dX10_areSame_42 : decode cX10_areSame 42 = .ok (.iload 4, 2) := by decide +kernel
theorem dX10_areSame_44 : decode cX10_areSame 44 = .ok (.ifCond .eq 51, 3) := by decide +kernel
theorem dX10_areSame_47 : decode cX10_areSame 47 = .ok (.aload_n 0, 1) := by decide +kernel
theorem dX10_areSame_48 : decode cX10_areSame 48 = .ok (.getfield 7, 3) := by decide +kernel
theorem dX10_areSame_51 : decode cX10_areSame 51 = .ok (.iload_n 1, 1) := by decide +kernel
theorem dX10_areSame_52 : decode cX10_areSame 52 = .ok (.aload_n 0, 1) := by decide +kernel
theorem dX10_areSame_53 : decode cX10_areSame 53 = .ok (.getfield 63, 3) := by decide +kernel
theorem dX10_areSame_56 : decode cX10_areSame 56 = .ok (.iload_n 2, 1) := by decide +kernel
theorem dX10_areSame_57 : decode cX10_areSame 57 = .ok (.iaload, 1) := by decide +kernel
theorem dX10_areSame_58 : decode cX10_areSame 58 = .ok (.iadd, 1) := by decide +kernel
theorem dX10_areSame_59 : decode cX10_areSame 59 = .ok (.iload 5, 2) := by decide +kernel
theorem dX10_areSame_61 : decode cX10_areSame 61 = .ok (.iadd, 1) := by decide +kernel
theorem dX10_areSame_62 : decode cX10_areSame 62 = .ok (.iaload, 1) := by decide +kernel
theorem dX10_areSame_63 : decode cX10_areSame 63 = .ok (.aload_n 0, 1) := by decide +kernel
theorem dX10_areSame_64 : decode cX10_areSame 64 = .ok (.getfield 7, 3) := by decide +kernel
theorem dX10_areSame_67 : decode cX10_areSame 67 = .ok (.iload_n 1, 1) := by decide +kernel
theorem dX10_areSame_68 : decode cX10_areSame 68 = .ok (.aload_n 0, 1) := by decide +kernel
theorem dX10_areSame_69 : decode cX10_areSame 69 = .ok (.getfield 63, 3) := by decide +kernel
theorem dX10_areSame_72 : decode cX10_areSame 72 = .ok (.iload_n 3, 1) := by decide +kernel
theorem dX10_areSame_73 : decode cX10_areSame 73 = .ok (.iaload, 1) := by decide +kernel
theorem dX10_areSame_74 : decode cX10_areSame 74 = .ok (.iadd, 1) := by decide +kernel
theorem dX10_areSame_75 : decode cX10_areSame 75 = .ok (.iload 5, 2) := by decide +kernel
theorem dX10_areSame_77 : decode cX10_areSame 77 = .ok (.iadd, 1) := by decide +kernel
theorem dX10_areSame_78 : decode cX10_areSame 78 = .ok (.iaload, 1) := by decide +kernel
theorem dX10_areSame_79 : decode cX10_areSame 79 = .ok (.if_icmp .ne 7, 3) := by decide +kernel
theorem dX10_areSame_82 : decode cX10_areSame 82 = .ok (.iconst 1, 1) := by decide +kernel
theorem dX10_areSame_83 : decode cX10_areSame 83 = .ok (.goto 4, 3) := by decide +kernel
theorem dX10_areSame_86 : decode cX10_areSame 86 = .ok (.iconst 0, 1) := by decide +kernel
theorem dX10_areSame_87 : decode cX10_areSame 87 = .ok (.istore 4, 2) := by decide +kernel
theorem dX10_areSame_89 : decode cX10_areSame 89 = .ok (.iinc 5 1, 3) := by decide +kernel
theorem dX10_areSame_92 : decode cX10_areSame 92 = .ok (.goto (-63), 3) := by decide +kernel
theorem dX10_areSame_95 : decode cX10_areSame 95 = .ok (.iload 4, 2) := by decide +kernel
theorem dX10_areSame_97 : decode cX10_areSame 97 = .ok (.ireturn, 1) := by decide +kernel
set_option maxRecDepth 20000 in
theorem ggX10_different_X10_finds : GoodIn wsX10_different wsX10_finds := goodIn_r _ [6, 1, 7, 12, 13, 14, 15, 16, 17, 18, 19, 20, 21, 22, 23, 24, 25, 26, 27, 28, 29, 30, 31, 32, 33, 34, 35, 36] (by decide +kernel) (by decide +kernel)
set_option maxRecDepth 20000 in
theorem gX10_different_X10_finds : GoodIn wsX10_different (wsV RX10 277 RX10 yX10_finds wsX10_finds) := goodIn_app (goodIn_of _ (by decide +kernel)) ggX10_different_X10_finds
set_option maxRecDepth 20000 in
theorem ggX10_different_X10_areSame : GoodIn wsX10_different wsX10_areSame := goodIn_r _ [11, 7, 1, 12, 13, 14, 15, 16, 17, 18, 19, 20, 21, 22, 23, 24, 25, 26, 27, 28, 29, 30, 31, 32, 33, 34, 35, 36] (by decide +kernel) (by decide +kernel)
set_option maxRecDepth 20000 in
theorem gX10_different_X10_areSame : GoodIn wsX10_different (wsV RX10 280 RX10 yX10_areSame wsX10_areSame) := goodIn_app (goodIn_of _ (by decide +kernel)) ggX10_different_X10_areSame
theorem dX10_different_0 : decode cX10_different 0 = .ok (.aload_n 0, 1) := by decide +kernel
theorem dX10_different_1 : decode cX10_different 1 = .ok (.iload_n 1, 1) := by decide +kernel
theorem dX10_different_2 : decode cX10_different 2 = .ok (.invokevirtual 277, 3) := by decide +kernel
theorem dX10_different_5 : decode cX10_different 5 = .ok (.bipush 17, 2) := by decide +kernel
theorem dX10_different_7 : decode cX10_different 7 = .ok (.bipush 31, 2) := by decide +kernel
theorem dX10_different_9 : decode cX10_different 9 = .ok (.iload_n 1, 1) := by decide +kernel
theorem dX10_different_10 : decode cX10_different 10 = .ok (.imul, 1) := by decide +kernel
theorem dX10_different_11 : decode cX10_different 11 = .ok (.iadd, 1) := by decide +kernel
theorem dX10_different_12 : decode cX10_different 12 = .ok (.istore_n 2, 1) := by decide +kernel
theorem dX10_different_13 : decode cX10_different 13 = .ok (.iconst 0, 1) := by decide +kernel
theorem dX10_different_14 : decode cX10_different 14 = .ok (.istore_n 3, 1) := by decide +kernel
theorem dX10_different_15 : decode cX10_different 15 = .ok (.iconst 1, 1) := by decide +kernel
theorem dX10_different_16 : decode cX10_different 16 = .ok (.istore 4, 2) := by decide +kernel
theorem dX10_different_18 : decode cX10_different 18 = .ok (.iload 4, 2) := by decide +kernel
theorem dX10_different_20 : decode cX10_different 20 = .ok (.aload_n 0, 1) := by decide +kernel
theorem dX10_different_21 : decode cX10_different 21 = .ok (.getfield 7, 3) := by decide +kernel
theorem dX10_different_24 : decode cX10_different 24 = .ok (.iload_n 2, 1) := by decide +kernel
theorem dX10_different_25 : decode cX10_different 25 = .ok (.iaload, 1) := by decide +kernel
theorem dX10_different_26 : decode cX10_different 26 = .ok (.if_icmp .gt 65, 3) := by decide +kernel
theorem dX10_different_29 : decode cX10_different 29 = .ok (.iconst 1, 1) := by decide +kernel
theorem dX10_different_30 : decode cX10_different 30 = .ok (.istore 5, 2) := by decide +kernel
theorem dX10_different_32 : decode cX10_different 32 = .ok (.iconst 1, 1) := by decide +kernel
theorem dX10_different_33 : decode cX10_different 33 = .ok (.istore 6, 2) := by decide +kernel
theorem dX10_different_35 : decode cX10_different 35 = .ok (.iload 6, 2) := by decide +kernel
theorem dX10_different_37 : decode cX10_different 37 = .ok (.iload 4, 2) := by decide +kernel
theorem dX10_different_39 : decode cX10_different 39 = .ok (.if_icmp .ge 33, 3) := by decide +kernel
theorem dX10_different_42 : decode cX10_different 42 = .ok (.iload 5, 2) := by decide +kernel
theorem dX10_different_44 : decode cX10_different 44 = .ok (.ifCond .eq 28, 3) := by decide +kernel
theorem dX10_different_47 : decode cX10_different 47 = .ok (.aload_n 0, 1) := by decide +kernel
theorem dX10_different_48 : decode cX10_different 48 = .ok (.iload_n 2, 1) := by decide +kernel
theorem dX10_different_49 : decode cX10_different 49 = .ok (.iload 4, 2) := by decide +kernel
theorem dX10_different_51 : decode cX10_different 51 = .ok (.iload 6, 2) := by decide +kernel
theorem dX10_different_53 : decode cX10_different 53 = .ok (.invokevirtual 280, 3) := by decide +kernel
theorem dX10_different_56 : decode cX10_different 56 = .ok (.ifCond .ne 7, 3) := by decide +kernel
theorem dX10_different_59 : decode cX10_different 59 = .ok (.iconst 1, 1) := by decide +kernel
theorem dX10_different_60 : decode cX10_different 60 = .ok (.goto 4, 3) := by decide +kernel
theorem dX10_different_63 : decode cX10_different 63 = .ok (.iconst 0, 1) := by decide +kernel
theorem dX10_different_64 : decode cX10_different 64 = .ok (.istore 5, 2) := by decide +kernel
theorem dX10_different_66 : decode cX10_different 66 = .ok (.iinc 6 1, 3) := by decide +kernel
theorem dX10_different_69 : decode cX10_different 69 = .ok (.goto (-34), 3) := by decide +kernel
theorem dX10_different_72 : decode cX10_different 72 = .ok (.iload_n 3, 1) := by decide +kernel
theorem dX10_different_73 : decode cX10_different 73 = .ok (.iload 5, 2) := by decide +kernel
theorem dX10_different_75 : decode cX10_different 75 = .ok (.ifCond .eq 7, 3) := by decide +kernel
theorem dX10_different_78 : decode cX10_different 78 = .ok (.iconst 1, 1) := by decide +kernel
theorem dX10_different_79 : decode cX10_different 79 = .ok (.goto 4, 3) := by decide +kernel
theorem dX10_different_82 : decode cX10_different 82 = .ok (.iconst 0, 1) := by decide +kernel
theorem dX10_different_83 : decode cX10_different 83 = .ok (.iadd, 1) := by decide +kernel
theorem dX10_different_84 : decode cX10_different 84 = .ok (.istore_n 3, 1) := by decide +kernel
theorem dX10_different_85 : decode cX10_different 85 = .ok (.iinc 4 1, 3) := by decide +kernel
theorem dX10_different_88 : decode cX10_different 88 = .ok (.goto (-70), 3) := by decide +kernel
theorem dX10_different_91 : decode cX10_different 91 = .ok (.iload_n 3, 1) := by decide +kernel
theorem dX10_different_92 : decode cX10_different 92 = .ok (.ireturn, 1) := by decide +kernel
theorem dX10_depth_0 : decode cX10_depth 0 = .ok (.bipush 17, 2) := by decide +kernel
theorem dX10_depth_2 : decode cX10_depth 2 = .ok (.bipush 31, 2) := by decide +kernel
theorem dX10_depth_4 : decode cX10_depth 4 = .ok (.iload_n 1, 1) := by decide +kernel
theorem dX10_depth_5 : decode cX10_depth 5 = .ok (.imul, 1) := by decide +kernel
theorem dX10_depth_6 : decode cX10_depth 6 = .ok (.iadd, 1) := by decide +kernel
theorem dX10_depth_7 : decode cX10_depth 7 = .ok (.istore_n 2, 1) := by decide +kernel
theorem dX10_depth_8 : decode cX10_depth 8 = .ok (.iconst 0, 1) := by decide +kernel
theorem dX10_depth_9 : decode cX10_depth 9 = .ok (.istore_n 3, 1) := by decide +kernel
theorem dX10_depth_10 : decode cX10_depth 10 = .ok (.iconst 1, 1) := by decide +kernel
theorem dX10_depth_11 : decode cX10_depth 11 = .ok (.istore 4, 2) := by decide +kernel
theorem dX10_depth_13 : decode cX10_depth 13 = .ok (.iload 4, 2) := by decide +kernel
theorem dX10_depth_15 : decode cX10_depth 15 = .ok (.aload_n 0, 1) := by decide +kernel
theorem dX10_depth_16 : decode cX10_depth 16 = .ok (.getfield 7, 3) := by decide +kernel
theorem dX10_depth_19 : decode cX10_depth 19 = .ok (.iload_n 2, 1) := by decide +kernel
theorem dX10_depth_20 : decode cX10_depth 20 = .ok (.iaload, 1) := by decide +kernel
theorem dX10_depth_21 : decode cX10_depth 21 = .ok (.if_icmp .gt 109, 3) := by decide +kernel
theorem dX10_depth_24 : decode cX10_depth 24 = .ok (.aload_n 0, 1) := by decide +kernel
theorem dX10_depth_25 : decode cX10_depth 25 = .ok (.getfield 7, 3) := by decide +kernel
theorem dX10_depth_28 : decode cX10_depth 28 = .ok (.iload_n 2, 1) := by decide +kernel
theorem dX10_depth_29 : decode cX10_depth 29 = .ok (.iload 4, 2) := by decide +kernel
theorem dX10_depth_31 : decode cX10_depth 31 = .ok (.iadd, 1) := by decide +kernel
theorem dX10_depth_32 : decode cX10_depth 32 = .ok (.iaload, 1) := by decide +kernel
theorem dX10_depth_33 : decode cX10_depth 33 = .ok (.istore 5, 2) := by decide +kernel
theorem dX10_depth_35 : decode cX10_depth 35 = .ok (.iload 5, 2) := by decide +kernel
theorem dX10_depth_37 : decode cX10_depth 37 = .ok (.bipush 6, 2) := by decide +kernel
theorem dX10_depth_39 : decode cX10_depth 39 = .ok (.if_icmp .ge 16, 3) := by decide +kernel
theorem dX10_depth_42 : decode cX10_depth 42 = .ok (.aload_n 0, 1) := by decide +kernel
theorem dX10_depth_43 : decode cX10_depth 43 = .ok (.getfield 35, 3) := by decide +kernel
theorem dX10_depth_46 : decode cX10_depth 46 = .ok (.iload_n 3, 1) := by decide +kernel
theorem dX10_depth_47 : decode cX10_depth 47 = .ok (.iconst 1, 1) := by decide +kernel
theorem dX10_depth_48 : decode cX10_depth 48 = .ok (.iastore, 1) := by decide +kernel
theorem dX10_depth_49 : decode cX10_depth 49 = .ok (.iinc 3 1, 3) := by decide +kernel
theorem dX10_depth_52 : decode cX10_depth 52 = .ok (.goto 72, 3) := by decide +kernel
theorem dX10_depth_55 : decode cX10_depth 55 = .ok (.iload 5, 2) := by decide +kernel
theorem dX10_depth_57 : decode cX10_depth 57 = .ok (.bipush 6, 2) := by decide +kernel
theorem dX10_depth_59 : decode cX10_depth 59 = .ok (.if_icmp .ne 18, 3) := by decide +kernel
theorem dX10_depth_62 : decode cX10_depth 62 = .ok (.aload_n 0, 1) := by decide +kernel
theorem dX10_depth_63 : decode cX10_depth 63 = .ok (.getfield 35, 3) := by decide +kernel
theorem dX10_depth_66 : decode cX10_depth 66 = .ok (.iload_n 3, 1) := by decide +kernel
theorem dX10_depth_67 : decode cX10_depth 67 = .ok (.iconst 1, 1) := by decide +kernel
theorem dX10_depth_68 : decode cX10_depth 68 = .ok (.isub, 1) := by decide +kernel
theorem dX10_depth_69 : decode cX10_depth 69 = .ok (.dup2, 1) := by decide +kernel
theorem dX10_depth_70 : decode cX10_depth 70 = .ok (.iaload, 1) := by decide +kernel
theorem dX10_depth_71 : decode cX10_depth 71 = .ok (.iconst 1, 1) := by decide +kernel
theorem dX10_depth_72 : decode cX10_depth 72 = .ok (.iadd, 1) := by decide +kernel
theorem dX10_depth_73 : decode cX10_depth 73 = .ok (.iastore, 1) := by decide +kernel
theorem dX10_depth_74 : decode cX10_depth 74 = .ok (.goto 50, 3) := by decide +kernel
theorem dX10_depth_77 : decode cX10_depth 77 = .ok (.iinc 3 (-1), 3) := by decide +kernel
theorem dX10_depth_80 : decode cX10_depth 80 = .ok (.aload_n 0, 1) := by decide +kernel
theorem dX10_depth_81 : decode cX10_depth 81 = .ok (.getfield 35, 3) := by decide +kernel
theorem dX10_depth_84 : decode cX10_depth 84 = .ok (.iload_n 3, 1) := by decide +kernel
theorem dX10_depth_85 : decode cX10_depth 85 = .ok (.iconst 1, 1) := by decide +kernel
theorem dX10_depth_86 : decode cX10_depth 86 = .ok (.isub, 1) := by decide +kernel
theorem dX10_depth_87 : decode cX10_depth 87 = .ok (.iconst 1, 1) := by decide +kernel
theorem dX10_depth_88 : decode cX10_depth 88 = .ok (.aload_n 0, 1) := by decide +kernel
theorem dX10_depth_89 : decode cX10_depth 89 = .ok (.getfield 35, 3) := by decide +kernel
theorem dX10_depth_92 : decode cX10_depth 92 = .ok (.iload_n 3, 1) := by decide +kernel
theorem dX10_depth_93 : decode cX10_depth 93 = .ok (.iaload, 1) := by decide +kernel
theorem dX10_depth_94 : decode cX10_depth 94 = .ok (.aload_n 0, 1) := by decide +kernel
theorem dX10_depth_95 : decode cX10_depth 95 = .ok (.getfield 35, 3) := by decide +kernel
theorem dX10_depth_98 : decode cX10_depth 98 = .ok (.iload_n 3, 1) := by decide +kernel
theorem dX10_depth_99 : decode cX10_depth 99 = .ok (.iconst 1, 1) := by decide +kernel
theorem dX10_depth_100 : decode cX10_depth 100 = .ok (.isub, 1) := by decide +kernel
theorem dX10_depth_101 : decode cX10_depth 101 = .ok (.iaload, 1) := by decide +kernel
theorem dX10_depth_102 : decode cX10_depth 102 = .ok (.if_icmp .le 12, 3) := by decide +kernel
theorem dX10_depth_105 : decode cX10_depth 105 = .ok (.aload_n 0, 1) := by decide +kernel
theorem dX10_depth_106 : decode cX10_depth 106 = .ok (.getfield 35, 3) := by decide +kernel
theorem dX10_depth_109 : decode cX10_depth 109 = .ok (.iload_n 3, 1) := by decide +kernel
theorem dX10_depth_110 : decode cX10_depth 110 = .ok (.iaload, 1) := by decide +kernel
theorem dX10_depth_111 : decode cX10_depth 111 = .ok (.goto 11, 3) := by decide +kernel
theorem dX10_depth_114 : decode cX10_depth 114 = .ok (.aload_n 0, 1) := by decide +kernel
theorem dX10_depth_115 : decode cX10_depth 115 = .ok (.getfield 35, 3) := by decide +kernel
theorem dX10_depth_118 : decode cX10_depth 118 = .ok (.iload_n 3, 1) := by decide +kernel
theorem dX10_depth_119 : decode cX10_depth 119 = .ok (.iconst 1, 1) := by decide +kernel
theorem dX10_depth_120 : decode cX10_depth 120 = .ok (.isub, 1) := by decide +kernel
theorem dX10_depth_121 : decode cX10_depth 121 = .ok (.iaload, 1) := by decide +kernel
theorem dX10_depth_122 : decode cX10_depth 122 = .ok (.iadd, 1) := by decide +kernel
theorem dX10_depth_123 : decode cX10_depth 123 = .ok (.iastore, 1) := by decide +kernel
theorem dX10_depth_124 : decode cX10_depth 124 = .ok (.iinc 4 1, 3) := by decide +kernel
theorem dX10_depth_127 : decode cX10_depth 127 = .ok (.goto (-114), 3) := by decide +kernel
theorem dX10_depth_130 : decode cX10_depth 130 = .ok (.aload_n 0, 1) := by decide +kernel
theorem dX10_depth_131 : decode cX10_depth 131 = .ok (.getfield 35, 3) := by decide +kernel
theorem dX10_depth_134 : decode cX10_depth 134 = .ok (.iconst 0, 1) := by decide +kernel
theorem dX10_depth_135 : decode cX10_depth 135 = .ok (.iaload, 1) := by decide +kernel
theorem dX10_depth_136 : decode cX10_depth 136 = .ok (.ireturn, 1) := by decide +kernel
theorem dX10_factsIn_0 : decode cX10_factsIn 0 = .ok (.bipush 17, 2) := by decide +kernel
theorem dX10_factsIn_2 : decode cX10_factsIn 2 = .ok (.bipush 31, 2) := by decide +kernel
theorem dX10_factsIn_4 : decode cX10_factsIn 4 = .ok (.iload_n 1, 1) := by decide +kernel
theorem dX10_factsIn_5 : decode cX10_factsIn 5 = .ok (.imul, 1) := by decide +kernel
theorem dX10_factsIn_6 : decode cX10_factsIn 6 = .ok (.iadd, 1) := by decide +kernel
theorem dX10_factsIn_7 : decode cX10_factsIn 7 = .ok (.istore_n 2, 1) := by decide +kernel
theorem dX10_factsIn_8 : decode cX10_factsIn 8 = .ok (.iconst 0, 1) := by decide +kernel
theorem dX10_factsIn_9 : decode cX10_factsIn 9 = .ok (.istore_n 3, 1) := by decide +kernel
theorem dX10_factsIn_10 : decode cX10_factsIn 10 = .ok (.iconst 1, 1) := by decide +kernel
theorem dX10_factsIn_11 : decode cX10_factsIn 11 = .ok (.istore 4, 2) := by decide +kernel
theorem dX10_factsIn_13 : decode cX10_factsIn 13 = .ok (.iload 4, 2) := by decide +kernel
theorem dX10_factsIn_15 : decode cX10_factsIn 15 = .ok (.aload_n 0, 1) := by decide +kernel
theorem dX10_factsIn_16 : decode cX10_factsIn 16 = .ok (.getfield 7, 3) := by decide +kernel
theorem dX10_factsIn_19 : decode cX10_factsIn 19 = .ok (.iload_n 2, 1) := by decide +kernel
theorem dX10_factsIn_20 : decode cX10_factsIn 20 = .ok (.iaload, 1) := by decide +kernel
theorem dX10_factsIn_21 : decode cX10_factsIn 21 = .ok (.if_icmp .gt 40, 3) := by decide +kernel
theorem dX10_factsIn_24 : decode cX10_factsIn 24 = .ok (.iload_n 3, 1) := by decide +kernel
theorem dX10_factsIn_25 : decode cX10_factsIn 25 = .ok (.aload_n 0, 1) := by decide +kernel
theorem dX10_factsIn_26 : decode cX10_factsIn 26 = .ok (.getfield 7, 3) := by decide +kernel
theorem dX10_factsIn_29 : decode cX10_factsIn 29 = .ok (.iload_n 2, 1) := by decide +kernel
theorem dX10_factsIn_30 : decode cX10_factsIn 30 = .ok (.iload 4, 2) := by decide +kernel
theorem dX10_factsIn_32 : decode cX10_factsIn 32 = .ok (.iadd, 1) := by decide +kernel
theorem dX10_factsIn_33 : decode cX10_factsIn 33 = .ok (.iaload, 1) := by decide +kernel
theorem dX10_factsIn_34 : decode cX10_factsIn 34 = .ok (.iconst 4, 1) := by decide +kernel
theorem dX10_factsIn_35 : decode cX10_factsIn 35 = .ok (.if_icmp .ge 17, 3) := by decide +kernel
theorem dX10_factsIn_38 : decode cX10_factsIn 38 = .ok (.iconst 1, 1) := by decide +kernel
theorem dX10_factsIn_39 : decode cX10_factsIn 39 = .ok (.aload_n 0, 1) := by decide +kernel
theorem dX10_factsIn_40 : decode cX10_factsIn 40 = .ok (.getfield 7, 3) := by decide +kernel
theorem dX10_factsIn_43 : decode cX10_factsIn 43 = .ok (.iload_n 2, 1) := by decide +kernel
theorem dX10_factsIn_44 : decode cX10_factsIn 44 = .ok (.iload 4, 2) := by decide +kernel
theorem dX10_factsIn_46 : decode cX10_factsIn 46 = .ok (.iadd, 1) := by decide +kernel
theorem dX10_factsIn_47 : decode cX10_factsIn 47 = .ok (.iaload, 1) := by decide +kernel
theorem dX10_factsIn_48 : decode cX10_factsIn 48 = .ok (.ishl, 1) := by decide +kernel
theorem dX10_factsIn_49 : decode cX10_factsIn 49 = .ok (.goto 4, 3) := by decide +kernel
theorem dX10_factsIn_52 : decode cX10_factsIn 52 = .ok (.iconst 0, 1) := by decide +kernel
theorem dX10_factsIn_53 : decode cX10_factsIn 53 = .ok (.ior, 1) := by decide +kernel
theorem dX10_factsIn_54 : decode cX10_factsIn 54 = .ok (.istore_n 3, 1) := by decide +kernel
theorem dX10_factsIn_55 : decode cX10_factsIn 55 = .ok (.iinc 4 1, 3) := by decide +kernel
theorem dX10_factsIn_58 : decode cX10_factsIn 58 = .ok (.goto (-45), 3) := by decide +kernel
theorem dX10_factsIn_61 : decode cX10_factsIn 61 = .ok (.iload_n 3, 1) := by decide +kernel
theorem dX10_factsIn_62 : decode cX10_factsIn 62 = .ok (.ireturn, 1) := by decide +kernel
set_option maxRecDepth 20000 in
theorem ggX10_claim_X10_noClaim : GoodIn wsX10_claim wsX10_noClaim := goodIn_r _ [6, 1, 7, 8, 5, 9, 10, 11, 12, 185, 186, 187, 188, 189, 190, 191, 192, 193, 194, 195, 196, 197, 198, 199, 200, 201, 202, 203, 204, 205, 206, 207, 208, 209] (by decide +kernel) (by decide +kernel)
set_option maxRecDepth 20000 in
theorem gX10_claim_X10_noClaim : GoodIn wsX10_claim (wsV RX10 163 RX10 yX10_noClaim wsX10_noClaim) := goodIn_app (goodIn_of _ (by decide +kernel)) ggX10_claim_X10_noClaim
set_option maxRecDepth 20000 in
theorem ggX10_claim_X10_holding : GoodIn wsX10_claim wsX10_holding := goodIn_r _ [16, 1, 17, 18, 19, 20, 5, 21, 22, 23, 24, 25, 185, 186, 187, 188, 189, 190, 191, 192, 193, 194, 195, 196, 197, 198, 199, 200, 201, 202, 203, 204, 205, 206, 207, 208, 209] (by decide +kernel) (by decide +kernel)
set_option maxRecDepth 20000 in
theorem gX10_claim_X10_holding : GoodIn wsX10_claim (wsV RX10 160 RX10 yX10_holding wsX10_holding) := goodIn_app (goodIn_of _ (by decide +kernel)) ggX10_claim_X10_holding
set_option maxRecDepth 20000 in
theorem ggX10_claim_X10_lowest : GoodIn wsX10_claim wsX10_lowest := goodIn_r _ [28] (by decide +kernel) (by decide +kernel)
set_option maxRecDepth 20000 in
theorem gX10_claim_X10_lowest : GoodIn wsX10_claim (va_wsS RX10 116 yX10_lowest wsX10_lowest) := goodIn_app (goodIn_of _ (by decide +kernel)) ggX10_claim_X10_lowest
set_option maxRecDepth 20000 in
theorem ggX10_claim_X10_different : GoodIn wsX10_claim wsX10_different := goodIn_r _ [32, 1, 33, 34, 35, 5, 36, 37, 38, 39, 40, 41, 185, 186, 187, 188, 189, 190, 191, 192, 193, 194, 195, 196, 197, 198, 199, 200, 201, 202, 203, 204, 205, 206, 207, 208, 209] (by decide +kernel) (by decide +kernel)
set_option maxRecDepth 20000 in
theorem gX10_claim_X10_different : GoodIn wsX10_claim (wsV RX10 283 RX10 yX10_different wsX10_different) := goodIn_app (goodIn_of _ (by decide +kernel)) ggX10_claim_X10_different
set_option maxRecDepth 20000 in
theorem ggX10_claim_X10_factsIn : GoodIn wsX10_claim wsX10_factsIn := goodIn_r _ [45, 1, 185, 186, 187, 188, 189, 190, 191, 192, 193, 194, 195, 196, 197, 198, 199, 200, 201, 202, 203, 204, 205, 206, 207, 208, 209] (by decide +kernel) (by decide +kernel)
set_option maxRecDepth 20000 in
theorem gX10_claim_X10_factsIn : GoodIn wsX10_claim (wsV RX10 286 RX10 yX10_factsIn wsX10_factsIn) := goodIn_app (goodIn_of _ (by decide +kernel)) ggX10_claim_X10_factsIn
set_option maxRecDepth 20000 in
theorem ggX10_claim_X10_isFollowing : GoodIn wsX10_claim wsX10_isFollowing := goodIn_r _ [49, 50, 51, 52, 5, 53, 54, 55, 56, 57, 58, 59, 60, 61, 62, 63, 64, 65, 66, 67, 68, 69, 70, 71, 72, 73, 74, 75, 76, 77, 78, 79, 80, 81, 82, 83, 84, 85, 86, 87, 88, 89, 90, 91, 92, 93, 94, 95, 96, 97, 98, 1, 17, 99, 100, 101, 102, 103, 104, 105, 106, 107, 108, 109, 110, 111, 112, 113, 114, 115, 116, 117, 118, 119, 120, 121, 122, 123, 124, 125, 126, 127, 128, 129, 130, 131, 132, 133, 134, 135, 136, 137, 138, 139, 140, 141, 142, 143, 144, 145, 146, 147, 148, 149, 150, 151, 152, 153, 154, 155, 156, 157, 158, 159, 160, 161, 162, 163, 164, 185, 186, 187, 188, 189, 190, 191, 192, 193, 194, 195, 196, 197, 198, 199, 200, 201, 202, 203, 204, 205, 206, 207, 208, 209] (by decide +kernel) (by decide +kernel)
set_option maxRecDepth 20000 in
theorem gX10_claim_X10_isFollowing : GoodIn wsX10_claim (wsV RX10 267 RX10 yX10_isFollowing wsX10_isFollowing) := goodIn_app (goodIn_of _ (by decide +kernel)) ggX10_claim_X10_isFollowing
set_option maxRecDepth 20000 in
theorem ggX10_claim_X10_followsPlainly : GoodIn wsX10_claim wsX10_followsPlainly := goodIn_r _ [168, 169, 170, 171, 5, 172, 10, 11, 12, 173, 174, 175, 176, 2, 3, 4, 6, 1, 7, 8, 9, 50, 51, 52, 53, 54, 55, 56, 57, 58, 59, 60, 61, 62, 63, 64, 65, 66, 67, 68, 69, 70, 71, 72, 73, 74, 75, 76, 77, 78, 79, 80, 81, 82, 83, 84, 85, 86, 87, 88, 89, 90, 91, 92, 93, 94, 95, 96, 97, 98, 17, 99, 100, 101, 102, 103, 104, 105, 106, 107, 108, 109, 110, 111, 112, 113, 114, 177, 178, 179, 180, 158, 159, 160, 137, 138, 139, 140, 185, 186, 187, 188, 189, 190, 191, 192, 193, 194, 195, 196, 197, 198, 199, 200, 201, 202, 203, 204, 205, 206, 207, 208, 209] (by decide +kernel) (by decide +kernel)
set_option maxRecDepth 20000 in
theorem gX10_claim_X10_followsPlainly : GoodIn wsX10_claim (wsV RX10 289 RX10 yX10_followsPlainly wsX10_followsPlainly) := goodIn_app (goodIn_of _ (by decide +kernel)) ggX10_claim_X10_followsPlainly
set_option maxRecDepth 20000 in
theorem ggX10_claim_X10_depth : GoodIn wsX10_claim wsX10_depth := goodIn_r _ [184, 1, 17, 185, 186, 187, 188, 189, 190, 191, 192, 193, 194, 195, 196, 197, 198, 199, 200, 201, 202, 203, 204, 205, 206, 207, 208, 209] (by decide +kernel) (by decide +kernel)
set_option maxRecDepth 20000 in
theorem gX10_claim_X10_depth : GoodIn wsX10_claim (wsV RX10 292 RX10 yX10_depth wsX10_depth) := goodIn_app (goodIn_of _ (by decide +kernel)) ggX10_claim_X10_depth
theorem dX10_claim_0 : decode cX10_claim 0 = .ok (.aload_n 0, 1) := by decide +kernel
theorem dX10_claim_1 : decode cX10_claim 1 = .ok (.iload_n 1, 1) := by decide +kernel
theorem dX10_claim_2 : decode cX10_claim 2 = .ok (.invokevirtual 163, 3) := by decide +kernel
theorem dX10_claim_5 : decode cX10_claim 5 = .ok (.ifCond .eq 5, 3) := by decide +kernel
theorem dX10_claim_8 : decode cX10_claim 8 = .ok (.iconst (-1), 1) := by decide +kernel
theorem dX10_claim_9 : decode cX10_claim 9 = .ok (.ireturn, 1) := by decide +kernel
theorem dX10_claim_10 : decode cX10_claim 10 = .ok (.iconst 1, 1) := by decide +kernel
theorem dX10_claim_11 : decode cX10_claim 11 = .ok (.aload_n 0, 1) := by decide +kernel
theorem dX10_claim_12 : decode cX10_claim 12 = .ok (.getfield 7, 3) := by decide +kernel
theorem dX10_claim_15 : decode cX10_claim 15 = .ok (.bipush 16, 2) := by decide +kernel
theorem dX10_claim_17 : decode cX10_claim 17 = .ok (.iaload, 1) := by decide +kernel
theorem dX10_claim_18 : decode cX10_claim 18 = .ok (.ishl, 1) := by decide +kernel
theorem dX10_claim_19 : decode cX10_claim 19 = .ok (.iconst 1, 1) := by decide +kernel
theorem dX10_claim_20 : decode cX10_claim 20 = .ok (.isub, 1) := by decide +kernel
theorem dX10_claim_21 : decode cX10_claim 21 = .ok (.istore_n 3, 1) := by decide +kernel
theorem dX10_claim_22 : decode cX10_claim 22 = .ok (.iload_n 2, 1) := by decide +kernel
theorem dX10_claim_23 : decode cX10_claim 23 = .ok (.tableswitch 131 0 7 #[45, 51, 78, 91, 97, 103, 118, 125], 45) := by decide +kernel
theorem dX10_claim_68 : decode cX10_claim 68 = .ok (.aload_n 0, 1) := by decide +kernel
theorem dX10_claim_69 : decode cX10_claim 69 = .ok (.iload_n 1, 1) := by decide +kernel
theorem dX10_claim_70 : decode cX10_claim 70 = .ok (.invokevirtual 160, 3) := by decide +kernel
theorem dX10_claim_73 : decode cX10_claim 73 = .ok (.ireturn, 1) := by decide +kernel
theorem dX10_claim_74 : decode cX10_claim 74 = .ok (.aload_n 0, 1) := by decide +kernel
theorem dX10_claim_75 : decode cX10_claim 75 = .ok (.iload_n 1, 1) := by decide +kernel
theorem dX10_claim_76 : decode cX10_claim 76 = .ok (.invokevirtual 160, 3) := by decide +kernel
theorem dX10_claim_79 : decode cX10_claim 79 = .ok (.iload_n 3, 1) := by decide +kernel
theorem dX10_claim_80 : decode cX10_claim 80 = .ok (.if_icmp .ne 8, 3) := by decide +kernel
theorem dX10_claim_83 : decode cX10_claim 83 = .ok (.bipush (-5), 2) := by decide +kernel
theorem dX10_claim_85 : decode cX10_claim 85 = .ok (.goto 15, 3) := by decide +kernel
theorem dX10_claim_88 : decode cX10_claim 88 = .ok (.iload_n 3, 1) := by decide +kernel
theorem dX10_claim_89 : decode cX10_claim 89 = .ok (.aload_n 0, 1) := by decide +kernel
theorem dX10_claim_90 : decode cX10_claim 90 = .ok (.iload_n 1, 1) := by decide +kernel
theorem dX10_claim_91 : decode cX10_claim 91 = .ok (.invokevirtual 160, 3) := by decide +kernel
theorem dX10_claim_94 : decode cX10_claim 94 = .ok (.iconst (-1), 1) := by decide +kernel
theorem dX10_claim_95 : decode cX10_claim 95 = .ok (.ixor, 1) := by decide +kernel
theorem dX10_claim_96 : decode cX10_claim 96 = .ok (.iand, 1) := by decide +kernel
theorem dX10_claim_97 : decode cX10_claim 97 = .ok (.invokestatic 116, 3) := by decide +kernel
theorem dX10_claim_100 : decode cX10_claim 100 = .ok (.ireturn, 1) := by decide +kernel
theorem dX10_claim_101 : decode cX10_claim 101 = .ok (.aload_n 0, 1) := by decide +kernel
theorem dX10_claim_102 : decode cX10_claim 102 = .ok (.getfield 7, 3) := by decide +kernel
theorem dX10_claim_105 : decode cX10_claim 105 = .ok (.bipush 17, 2) := by decide +kernel
theorem dX10_claim_107 : decode cX10_claim 107 = .ok (.bipush 31, 2) := by decide +kernel
theorem dX10_claim_109 : decode cX10_claim 109 = .ok (.iload_n 1, 1) := by decide +kernel
theorem dX10_claim_110 : decode cX10_claim 110 = .ok (.imul, 1) := by decide +kernel
theorem dX10_claim_111 : decode cX10_claim 111 = .ok (.iadd, 1) := by decide +kernel
theorem dX10_claim_112 : decode cX10_claim 112 = .ok (.iaload, 1) := by decide +kernel
theorem dX10_claim_113 : decode cX10_claim 113 = .ok (.ireturn, 1) := by decide +kernel
theorem dX10_claim_114 : decode cX10_claim 114 = .ok (.aload_n 0, 1) := by decide +kernel
theorem dX10_claim_115 : decode cX10_claim 115 = .ok (.iload_n 1, 1) := by decide +kernel
theorem dX10_claim_116 : decode cX10_claim 116 = .ok (.invokevirtual 283, 3) := by decide +kernel
theorem dX10_claim_119 : decode cX10_claim 119 = .ok (.ireturn, 1) := by decide +kernel
theorem dX10_claim_120 : decode cX10_claim 120 = .ok (.aload_n 0, 1) := by decide +kernel
theorem dX10_claim_121 : decode cX10_claim 121 = .ok (.iload_n 1, 1) := by decide +kernel
theorem dX10_claim_122 : decode cX10_claim 122 = .ok (.invokevirtual 286, 3) := by decide +kernel
theorem dX10_claim_125 : decode cX10_claim 125 = .ok (.ireturn, 1) := by decide +kernel
theorem dX10_claim_126 : decode cX10_claim 126 = .ok (.aload_n 0, 1) := by decide +kernel
theorem dX10_claim_127 : decode cX10_claim 127 = .ok (.iconst 0, 1) := by decide +kernel
theorem dX10_claim_128 : decode cX10_claim 128 = .ok (.iload_n 1, 1) := by decide +kernel
theorem dX10_claim_129 : decode cX10_claim 129 = .ok (.invokevirtual 267, 3) := by decide +kernel
theorem dX10_claim_132 : decode cX10_claim 132 = .ok (.ifCond .eq 7, 3) := by decide +kernel
theorem dX10_claim_135 : decode cX10_claim 135 = .ok (.iconst 1, 1) := by decide +kernel
theorem dX10_claim_136 : decode cX10_claim 136 = .ok (.goto 4, 3) := by decide +kernel
theorem dX10_claim_139 : decode cX10_claim 139 = .ok (.iconst 0, 1) := by decide +kernel
theorem dX10_claim_140 : decode cX10_claim 140 = .ok (.ireturn, 1) := by decide +kernel
theorem dX10_claim_141 : decode cX10_claim 141 = .ok (.aload_n 0, 1) := by decide +kernel
theorem dX10_claim_142 : decode cX10_claim 142 = .ok (.iconst 0, 1) := by decide +kernel
theorem dX10_claim_143 : decode cX10_claim 143 = .ok (.iload_n 1, 1) := by decide +kernel
theorem dX10_claim_144 : decode cX10_claim 144 = .ok (.invokevirtual 289, 3) := by decide +kernel
theorem dX10_claim_147 : decode cX10_claim 147 = .ok (.ireturn, 1) := by decide +kernel
theorem dX10_claim_148 : decode cX10_claim 148 = .ok (.aload_n 0, 1) := by decide +kernel
theorem dX10_claim_149 : decode cX10_claim 149 = .ok (.iload_n 1, 1) := by decide +kernel
theorem dX10_claim_150 : decode cX10_claim 150 = .ok (.invokevirtual 292, 3) := by decide +kernel
theorem dX10_claim_153 : decode cX10_claim 153 = .ok (.ireturn, 1) := by decide +kernel
theorem dX10_claim_154 : decode cX10_claim 154 = .ok (.bipush (-2), 2) := by decide +kernel
theorem dX10_claim_156 : decode cX10_claim 156 = .ok (.ireturn, 1) := by decide +kernel
set_option maxRecDepth 20000 in
theorem ggX10_holds_X10_noClaim : GoodIn wsX10_holds wsX10_noClaim := goodIn_r _ [5, 6, 7, 8, 4, 9, 10, 11, 12, 30, 31, 32, 33, 34, 35, 36, 37, 38, 39, 40, 41, 42, 43, 44, 45, 46, 47, 48, 49, 50, 51, 52, 53, 54] (by decide +kernel) (by decide +kernel)
set_option maxRecDepth 20000 in
theorem gX10_holds_X10_noClaim : GoodIn wsX10_holds (wsV RX10 163 RX10 yX10_noClaim wsX10_noClaim) := goodIn_app (goodIn_of _ (by decide +kernel)) ggX10_holds_X10_noClaim
set_option maxRecDepth 20000 in
theorem ggX10_holds_X10_noStage : GoodIn wsX10_holds wsX10_noStage := goodIn_r _ [16, 6, 10, 11, 4, 12, 30, 31, 32, 33, 34, 35, 36, 37, 38, 39, 40, 41, 42, 43, 44, 45, 46, 47, 48, 49, 50, 51, 52, 53, 54] (by decide +kernel) (by decide +kernel)
set_option maxRecDepth 20000 in
theorem gX10_holds_X10_noStage : GoodIn wsX10_holds (wsV RX10 86 RX10 yX10_noStage wsX10_noStage) := goodIn_app (goodIn_of _ (by decide +kernel)) ggX10_holds_X10_noStage
set_option maxRecDepth 20000 in
theorem ggX10_holds_X10_holding : GoodIn wsX10_holds wsX10_holding := goodIn_r _ [20, 6, 21, 22, 23, 24, 4, 25, 26, 27, 28, 29, 30, 31, 32, 33, 34, 35, 36, 37, 38, 39, 40, 41, 42, 43, 44, 45, 46, 47, 48, 49, 50, 51, 52, 53, 54] (by decide +kernel) (by decide +kernel)
set_option maxRecDepth 20000 in
theorem gX10_holds_X10_holding : GoodIn wsX10_holds (wsV RX10 160 RX10 yX10_holding wsX10_holding) := goodIn_app (goodIn_of _ (by decide +kernel)) ggX10_holds_X10_holding
theorem dX10_holds_0 : decode cX10_holds 0 = .ok (.aload_n 0, 1) := by decide +kernel
theorem dX10_holds_1 : decode cX10_holds 1 = .ok (.iload_n 1, 1) := by decide +kernel
theorem dX10_holds_2 : decode cX10_holds 2 = .ok (.invokevirtual 163, 3) := by decide +kernel
theorem dX10_holds_5 : decode cX10_holds 5 = .ok (.ifCond .ne 11, 3) := by decide +kernel
theorem dX10_holds_8 : decode cX10_holds 8 = .ok (.aload_n 0, 1) := by decide +kernel
theorem dX10_holds_9 : decode cX10_holds 9 = .ok (.iload_n 2, 1) := by decide +kernel
theorem dX10_holds_10 : decode cX10_holds 10 = .ok (.invokevirtual 86, 3) := by decide +kernel
theorem dX10_holds_13 : decode cX10_holds 13 = .ok (.ifCond .eq 7, 3) := by decide +kernel
theorem dX10_holds_16 : decode cX10_holds 16 = .ok (.iconst (-1), 1) := by decide +kernel
theorem dX10_holds_17 : decode cX10_holds 17 = .ok (.goto 12, 3) := by decide +kernel
theorem dX10_holds_20 : decode cX10_holds 20 = .ok (.aload_n 0, 1) := by decide +kernel
theorem dX10_holds_21 : decode cX10_holds 21 = .ok (.iload_n 1, 1) := by decide +kernel
theorem dX10_holds_22 : decode cX10_holds 22 = .ok (.invokevirtual 160, 3) := by decide +kernel
theorem dX10_holds_25 : decode cX10_holds 25 = .ok (.iload_n 2, 1) := by decide +kernel
theorem dX10_holds_26 : decode cX10_holds 26 = .ok (.ishr, 1) := by decide +kernel
theorem dX10_holds_27 : decode cX10_holds 27 = .ok (.iconst 1, 1) := by decide +kernel
theorem dX10_holds_28 : decode cX10_holds 28 = .ok (.iand, 1) := by decide +kernel
theorem dX10_holds_29 : decode cX10_holds 29 = .ok (.ireturn, 1) := by decide +kernel
set_option maxRecDepth 20000 in
theorem ggX10_unlike_X10_findsLike : GoodIn wsX10_unlike wsX10_findsLike := goodIn_r _ [7, 1, 2, 8, 9, 10, 6, 11, 12, 13, 14, 15, 19, 20, 21, 22, 23, 24, 25, 26, 27, 28, 29, 30, 31, 32, 33, 34, 35, 36, 37, 38, 39, 40, 41, 42, 43] (by decide +kernel) (by decide +kernel)
set_option maxRecDepth 20000 in
theorem gX10_unlike_X10_findsLike : GoodIn wsX10_unlike (wsV RX10 113 RX10 yX10_findsLike wsX10_findsLike) := goodIn_app (goodIn_of _ (by decide +kernel)) ggX10_unlike_X10_findsLike
set_option maxRecDepth 20000 in
theorem ggX10_unlike_X10_lowest : GoodIn wsX10_unlike wsX10_lowest := goodIn_r _ [18] (by decide +kernel) (by decide +kernel)
set_option maxRecDepth 20000 in
theorem gX10_unlike_X10_lowest : GoodIn wsX10_unlike (va_wsS RX10 116 yX10_lowest wsX10_lowest) := goodIn_app (goodIn_of _ (by decide +kernel)) ggX10_unlike_X10_lowest
theorem dX10_unlike_0 : decode cX10_unlike 0 = .ok (.aload_n 0, 1) := by decide +kernel
theorem dX10_unlike_1 : decode cX10_unlike 1 = .ok (.invokevirtual 113, 3) := by decide +kernel
theorem dX10_unlike_4 : decode cX10_unlike 4 = .ok (.iconst 0, 1) := by decide +kernel
theorem dX10_unlike_5 : decode cX10_unlike 5 = .ok (.istore_n 1, 1) := by decide +kernel
theorem dX10_unlike_6 : decode cX10_unlike 6 = .ok (.iconst 0, 1) := by decide +kernel
theorem dX10_unlike_7 : decode cX10_unlike 7 = .ok (.istore_n 2, 1) := by decide +kernel
theorem dX10_unlike_8 : decode cX10_unlike 8 = .ok (.iload_n 2, 1) := by decide +kernel
theorem dX10_unlike_9 : decode cX10_unlike 9 = .ok (.aload_n 0, 1) := by decide +kernel
theorem dX10_unlike_10 : decode cX10_unlike 10 = .ok (.getfield 7, 3) := by decide +kernel
theorem dX10_unlike_13 : decode cX10_unlike 13 = .ok (.bipush 16, 2) := by decide +kernel
theorem dX10_unlike_15 : decode cX10_unlike 15 = .ok (.iaload, 1) := by decide +kernel
theorem dX10_unlike_16 : decode cX10_unlike 16 = .ok (.if_icmp .ge 30, 3) := by decide +kernel
theorem dX10_unlike_19 : decode cX10_unlike 19 = .ok (.iload_n 1, 1) := by decide +kernel
theorem dX10_unlike_20 : decode cX10_unlike 20 = .ok (.aload_n 0, 1) := by decide +kernel
theorem dX10_unlike_21 : decode cX10_unlike 21 = .ok (.getfield 19, 3) := by decide +kernel
theorem dX10_unlike_24 : decode cX10_unlike 24 = .ok (.iload_n 2, 1) := by decide +kernel
theorem dX10_unlike_25 : decode cX10_unlike 25 = .ok (.iaload, 1) := by decide +kernel
theorem dX10_unlike_26 : decode cX10_unlike 26 = .ok (.invokestatic 116, 3) := by decide +kernel
theorem dX10_unlike_29 : decode cX10_unlike 29 = .ok (.iload_n 2, 1) := by decide +kernel
theorem dX10_unlike_30 : decode cX10_unlike 30 = .ok (.if_icmp .ne 7, 3) := by decide +kernel
theorem dX10_unlike_33 : decode cX10_unlike 33 = .ok (.iconst 1, 1) := by decide +kernel
theorem dX10_unlike_34 : decode cX10_unlike 34 = .ok (.goto 4, 3) := by decide +kernel
theorem dX10_unlike_37 : decode cX10_unlike 37 = .ok (.iconst 0, 1) := by decide +kernel
theorem dX10_unlike_38 : decode cX10_unlike 38 = .ok (.iadd, 1) := by decide +kernel
theorem dX10_unlike_39 : decode cX10_unlike 39 = .ok (.istore_n 1, 1) := by decide +kernel
theorem dX10_unlike_40 : decode cX10_unlike 40 = .ok (.iinc 2 1, 3) := by decide +kernel
theorem dX10_unlike_43 : decode cX10_unlike 43 = .ok (.goto (-35), 3) := by decide +kernel
theorem dX10_unlike_46 : decode cX10_unlike 46 = .ok (.iload_n 1, 1) := by decide +kernel
theorem dX10_unlike_47 : decode cX10_unlike 47 = .ok (.ireturn, 1) := by decide +kernel
set_option maxRecDepth 20000 in
theorem ggX10_ends_X10_leadingTo : GoodIn wsX10_ends wsX10_leadingTo := goodIn_r _ [6, 1, 7, 8, 9, 5, 10, 11, 12, 13, 14, 15, 16, 17, 18, 19, 20, 21, 22, 23, 24, 25, 26, 27, 28, 29, 30, 31, 32, 33, 34, 35] (by decide +kernel) (by decide +kernel)
set_option maxRecDepth 20000 in
theorem gX10_ends_X10_leadingTo : GoodIn wsX10_ends (wsV RX10 96 RX10 yX10_leadingTo wsX10_leadingTo) := goodIn_app (goodIn_of _ (by decide +kernel)) ggX10_ends_X10_leadingTo
theorem dX10_ends_0 : decode cX10_ends 0 = .ok (.iconst 0, 1) := by decide +kernel
theorem dX10_ends_1 : decode cX10_ends 1 = .ok (.istore_n 2, 1) := by decide +kernel
theorem dX10_ends_2 : decode cX10_ends 2 = .ok (.iconst 0, 1) := by decide +kernel
theorem dX10_ends_3 : decode cX10_ends 3 = .ok (.istore_n 3, 1) := by decide +kernel
theorem dX10_ends_4 : decode cX10_ends 4 = .ok (.iload_n 3, 1) := by decide +kernel
theorem dX10_ends_5 : decode cX10_ends 5 = .ok (.aload_n 0, 1) := by decide +kernel
theorem dX10_ends_6 : decode cX10_ends 6 = .ok (.getfield 7, 3) := by decide +kernel
theorem dX10_ends_9 : decode cX10_ends 9 = .ok (.bipush 16, 2) := by decide +kernel
theorem dX10_ends_11 : decode cX10_ends 11 = .ok (.iaload, 1) := by decide +kernel
theorem dX10_ends_12 : decode cX10_ends 12 = .ok (.if_icmp .ge 45, 3) := by decide +kernel
theorem dX10_ends_15 : decode cX10_ends 15 = .ok (.iload_n 2, 1) := by decide +kernel
theorem dX10_ends_16 : decode cX10_ends 16 = .ok (.iload_n 1, 1) := by decide +kernel
theorem dX10_ends_17 : decode cX10_ends 17 = .ok (.ifCond .eq 14, 3) := by decide +kernel
theorem dX10_ends_20 : decode cX10_ends 20 = .ok (.aload_n 0, 1) := by decide +kernel
theorem dX10_ends_21 : decode cX10_ends 21 = .ok (.getfield 7, 3) := by decide +kernel
theorem dX10_ends_24 : decode cX10_ends 24 = .ok (.iconst 0, 1) := by decide +kernel
theorem dX10_ends_25 : decode cX10_ends 25 = .ok (.iload_n 3, 1) := by decide +kernel
theorem dX10_ends_26 : decode cX10_ends 26 = .ok (.iadd, 1) := by decide +kernel
theorem dX10_ends_27 : decode cX10_ends 27 = .ok (.iaload, 1) := by decide +kernel
theorem dX10_ends_28 : decode cX10_ends 28 = .ok (.goto 8, 3) := by decide +kernel
theorem dX10_ends_31 : decode cX10_ends 31 = .ok (.aload_n 0, 1) := by decide +kernel
theorem dX10_ends_32 : decode cX10_ends 32 = .ok (.iload_n 3, 1) := by decide +kernel
theorem dX10_ends_33 : decode cX10_ends 33 = .ok (.invokevirtual 96, 3) := by decide +kernel
theorem dX10_ends_36 : decode cX10_ends 36 = .ok (.iconst 1, 1) := by decide +kernel
theorem dX10_ends_37 : decode cX10_ends 37 = .ok (.iload_n 3, 1) := by decide +kernel
theorem dX10_ends_38 : decode cX10_ends 38 = .ok (.ishl, 1) := by decide +kernel
theorem dX10_ends_39 : decode cX10_ends 39 = .ok (.if_icmp .ne 9, 3) := by decide +kernel
theorem dX10_ends_42 : decode cX10_ends 42 = .ok (.iconst 1, 1) := by decide +kernel
theorem dX10_ends_43 : decode cX10_ends 43 = .ok (.iload_n 3, 1) := by decide +kernel
theorem dX10_ends_44 : decode cX10_ends 44 = .ok (.ishl, 1) := by decide +kernel
theorem dX10_ends_45 : decode cX10_ends 45 = .ok (.goto 4, 3) := by decide +kernel
theorem dX10_ends_48 : decode cX10_ends 48 = .ok (.iconst 0, 1) := by decide +kernel
theorem dX10_ends_49 : decode cX10_ends 49 = .ok (.ior, 1) := by decide +kernel
theorem dX10_ends_50 : decode cX10_ends 50 = .ok (.istore_n 2, 1) := by decide +kernel
theorem dX10_ends_51 : decode cX10_ends 51 = .ok (.iinc 3 1, 3) := by decide +kernel
theorem dX10_ends_54 : decode cX10_ends 54 = .ok (.goto (-50), 3) := by decide +kernel
theorem dX10_ends_57 : decode cX10_ends 57 = .ok (.iload_n 2, 1) := by decide +kernel
theorem dX10_ends_58 : decode cX10_ends 58 = .ok (.ireturn, 1) := by decide +kernel
theorem dX10_everywhere_0 : decode cX10_everywhere 0 = .ok (.bipush 15, 2) := by decide +kernel
theorem dX10_everywhere_2 : decode cX10_everywhere 2 = .ok (.istore_n 1, 1) := by decide +kernel
theorem dX10_everywhere_3 : decode cX10_everywhere 3 = .ok (.iconst 0, 1) := by decide +kernel
theorem dX10_everywhere_4 : decode cX10_everywhere 4 = .ok (.istore_n 2, 1) := by decide +kernel
theorem dX10_everywhere_5 : decode cX10_everywhere 5 = .ok (.iload_n 2, 1) := by decide +kernel
theorem dX10_everywhere_6 : decode cX10_everywhere 6 = .ok (.aload_n 0, 1) := by decide +kernel
theorem dX10_everywhere_7 : decode cX10_everywhere 7 = .ok (.getfield 7, 3) := by decide +kernel
theorem dX10_everywhere_10 : decode cX10_everywhere 10 = .ok (.bipush 16, 2) := by decide +kernel
theorem dX10_everywhere_12 : decode cX10_everywhere 12 = .ok (.iaload, 1) := by decide +kernel
theorem dX10_everywhere_13 : decode cX10_everywhere 13 = .ok (.if_icmp .ge 21, 3) := by decide +kernel
theorem dX10_everywhere_16 : decode cX10_everywhere 16 = .ok (.iload_n 1, 1) := by decide +kernel
theorem dX10_everywhere_17 : decode cX10_everywhere 17 = .ok (.aload_n 0, 1) := by decide +kernel
theorem dX10_everywhere_18 : decode cX10_everywhere 18 = .ok (.getfield 7, 3) := by decide +kernel
theorem dX10_everywhere_21 : decode cX10_everywhere 21 = .ok (.bipush 8, 2) := by decide +kernel
theorem dX10_everywhere_23 : decode cX10_everywhere 23 = .ok (.iload_n 2, 1) := by decide +kernel
theorem dX10_everywhere_24 : decode cX10_everywhere 24 = .ok (.iadd, 1) := by decide +kernel
theorem dX10_everywhere_25 : decode cX10_everywhere 25 = .ok (.iaload, 1) := by decide +kernel
theorem dX10_everywhere_26 : decode cX10_everywhere 26 = .ok (.iand, 1) := by decide +kernel
theorem dX10_everywhere_27 : decode cX10_everywhere 27 = .ok (.istore_n 1, 1) := by decide +kernel
theorem dX10_everywhere_28 : decode cX10_everywhere 28 = .ok (.iinc 2 1, 3) := by decide +kernel
theorem dX10_everywhere_31 : decode cX10_everywhere 31 = .ok (.goto (-26), 3) := by decide +kernel
theorem dX10_everywhere_34 : decode cX10_everywhere 34 = .ok (.iload_n 1, 1) := by decide +kernel
theorem dX10_everywhere_35 : decode cX10_everywhere 35 = .ok (.ireturn, 1) := by decide +kernel
set_option maxRecDepth 20000 in
theorem ggX10_count_X10_pairs : GoodIn wsX10_count wsX10_pairs := goodIn_r _ [8, 1, 9, 10, 7, 11, 58, 59, 60, 61, 62, 63, 64, 65, 66, 67, 68, 69, 70, 71, 72, 73, 74, 75, 76, 77, 78, 79, 80, 81, 82] (by decide +kernel) (by decide +kernel)
set_option maxRecDepth 20000 in
theorem gX10_count_X10_pairs : GoodIn wsX10_count (wsV RX10 92 RX10 yX10_pairs wsX10_pairs) := goodIn_app (goodIn_of _ (by decide +kernel)) ggX10_count_X10_pairs
set_option maxRecDepth 20000 in
theorem ggX10_count_X10_places : GoodIn wsX10_count wsX10_places := goodIn_r _ [15, 16, 17, 18, 7, 19, 1, 20, 21, 22, 23, 24, 25, 58, 59, 60, 61, 62, 63, 64, 65, 66, 67, 68, 69, 70, 71, 72, 73, 74, 75, 76, 77, 78, 79, 80, 81, 82] (by decide +kernel) (by decide +kernel)
set_option maxRecDepth 20000 in
theorem gX10_count_X10_places : GoodIn wsX10_count (wsV RX10 166 RX10 yX10_places wsX10_places) := goodIn_app (goodIn_of _ (by decide +kernel)) ggX10_count_X10_places
set_option maxRecDepth 20000 in
theorem ggX10_count_X10_bits : GoodIn wsX10_count wsX10_bits := goodIn_r _ [11] (by decide +kernel) (by decide +kernel)
set_option maxRecDepth 20000 in
theorem gX10_count_X10_bits : GoodIn wsX10_count (va_wsS RX10 82 yX10_bits wsX10_bits) := goodIn_app (goodIn_of _ (by decide +kernel)) ggX10_count_X10_bits
set_option maxRecDepth 20000 in
theorem ggX10_count_X10_ends : GoodIn wsX10_count wsX10_ends := goodIn_r _ [29, 1, 30, 31, 32, 7, 33, 34, 35, 36, 37, 58, 59, 60, 61, 62, 63, 64, 65, 66, 67, 68, 69, 70, 71, 72, 73, 74, 75, 76, 77, 78, 79, 80, 81, 82] (by decide +kernel) (by decide +kernel)
set_option maxRecDepth 20000 in
theorem gX10_count_X10_ends : GoodIn wsX10_count (wsV RX10 295 RX10 yX10_ends wsX10_ends) := goodIn_app (goodIn_of _ (by decide +kernel)) ggX10_count_X10_ends
set_option maxRecDepth 20000 in
theorem ggX10_count_X10_unlike : GoodIn wsX10_count wsX10_unlike := goodIn_r _ [41, 1, 42, 43, 44, 45, 7, 46, 47, 48, 49, 50, 34, 35, 36, 37, 51, 52, 53, 58, 59, 60, 61, 62, 63, 64, 65, 66, 67, 68, 69, 70, 71, 72, 73, 74, 75, 76, 77, 78, 79, 80, 81, 82] (by decide +kernel) (by decide +kernel)
set_option maxRecDepth 20000 in
theorem gX10_count_X10_unlike : GoodIn wsX10_count (wsV RX10 299 RX10 yX10_unlike wsX10_unlike) := goodIn_app (goodIn_of _ (by decide +kernel)) ggX10_count_X10_unlike
set_option maxRecDepth 20000 in
theorem ggX10_count_X10_everywhere : GoodIn wsX10_count wsX10_everywhere := goodIn_r _ [57, 1, 58, 59, 60, 61, 62, 63, 64, 65, 66, 67, 68, 69, 70, 71, 72, 73, 74, 75, 76, 77, 78, 79, 80, 81, 82] (by decide +kernel) (by decide +kernel)
set_option maxRecDepth 20000 in
theorem gX10_count_X10_everywhere : GoodIn wsX10_count (wsV RX10 302 RX10 yX10_everywhere wsX10_everywhere) := goodIn_app (goodIn_of _ (by decide +kernel)) ggX10_count_X10_everywhere
theorem dX10_count_0 : decode cX10_count 0 = .ok (.iload_n 1, 1) := by decide +kernel
theorem dX10_count_1 : decode cX10_count 1 = .ok (.tableswitch 104 0 8 #[51, 59, 64, 72, 78, 84, 89, 94, 99], 51) := by decide +kernel
theorem dX10_count_52 : decode cX10_count 52 = .ok (.aload_n 0, 1) := by decide +kernel
theorem dX10_count_53 : decode cX10_count 53 = .ok (.getfield 7, 3) := by decide +kernel
theorem dX10_count_56 : decode cX10_count 56 = .ok (.bipush 16, 2) := by decide +kernel
theorem dX10_count_58 : decode cX10_count 58 = .ok (.iaload, 1) := by decide +kernel
theorem dX10_count_59 : decode cX10_count 59 = .ok (.ireturn, 1) := by decide +kernel
theorem dX10_count_60 : decode cX10_count 60 = .ok (.aload_n 0, 1) := by decide +kernel
theorem dX10_count_61 : decode cX10_count 61 = .ok (.invokevirtual 92, 3) := by decide +kernel
theorem dX10_count_64 : decode cX10_count 64 = .ok (.ireturn, 1) := by decide +kernel
theorem dX10_count_65 : decode cX10_count 65 = .ok (.aload_n 0, 1) := by decide +kernel
theorem dX10_count_66 : decode cX10_count 66 = .ok (.invokevirtual 166, 3) := by decide +kernel
theorem dX10_count_69 : decode cX10_count 69 = .ok (.invokestatic 82, 3) := by decide +kernel
theorem dX10_count_72 : decode cX10_count 72 = .ok (.ireturn, 1) := by decide +kernel
theorem dX10_count_73 : decode cX10_count 73 = .ok (.aload_n 0, 1) := by decide +kernel
theorem dX10_count_74 : decode cX10_count 74 = .ok (.iconst 1, 1) := by decide +kernel
theorem dX10_count_75 : decode cX10_count 75 = .ok (.invokevirtual 295, 3) := by decide +kernel
theorem dX10_count_78 : decode cX10_count 78 = .ok (.ireturn, 1) := by decide +kernel
theorem dX10_count_79 : decode cX10_count 79 = .ok (.aload_n 0, 1) := by decide +kernel
theorem dX10_count_80 : decode cX10_count 80 = .ok (.iconst 0, 1) := by decide +kernel
theorem dX10_count_81 : decode cX10_count 81 = .ok (.invokevirtual 295, 3) := by decide +kernel
theorem dX10_count_84 : decode cX10_count 84 = .ok (.ireturn, 1) := by decide +kernel
theorem dX10_count_85 : decode cX10_count 85 = .ok (.aload_n 0, 1) := by decide +kernel
theorem dX10_count_86 : decode cX10_count 86 = .ok (.invokevirtual 299, 3) := by decide +kernel
theorem dX10_count_89 : decode cX10_count 89 = .ok (.ireturn, 1) := by decide +kernel
theorem dX10_count_90 : decode cX10_count 90 = .ok (.aload_n 0, 1) := by decide +kernel
theorem dX10_count_91 : decode cX10_count 91 = .ok (.invokevirtual 302, 3) := by decide +kernel
theorem dX10_count_94 : decode cX10_count 94 = .ok (.ireturn, 1) := by decide +kernel
theorem dX10_count_95 : decode cX10_count 95 = .ok (.aload_n 0, 1) := by decide +kernel
theorem dX10_count_96 : decode cX10_count 96 = .ok (.getfield 74, 3) := by decide +kernel
theorem dX10_count_99 : decode cX10_count 99 = .ok (.ireturn, 1) := by decide +kernel
theorem dX10_count_100 : decode cX10_count 100 = .ok (.aload_n 0, 1) := by decide +kernel
theorem dX10_count_101 : decode cX10_count 101 = .ok (.getfield 119, 3) := by decide +kernel
theorem dX10_count_104 : decode cX10_count 104 = .ok (.ireturn, 1) := by decide +kernel
theorem dX10_count_105 : decode cX10_count 105 = .ok (.bipush (-2), 2) := by decide +kernel
theorem dX10_count_107 : decode cX10_count 107 = .ok (.ireturn, 1) := by decide +kernel
theorem dJ6_bitCount_0f7a4_0 : decode cJ6_bitCount_0f7a4 0 = .ok (.iload_n 0, 1) := by decide +kernel
theorem dJ6_bitCount_0f7a4_1 : decode cJ6_bitCount_0f7a4 1 = .ok (.iload_n 0, 1) := by decide +kernel
theorem dJ6_bitCount_0f7a4_2 : decode cJ6_bitCount_0f7a4 2 = .ok (.iconst 1, 1) := by decide +kernel
theorem dJ6_bitCount_0f7a4_3 : decode cJ6_bitCount_0f7a4 3 = .ok (.iushr, 1) := by decide +kernel
theorem dJ6_bitCount_0f7a4_4 : decode cJ6_bitCount_0f7a4 4 = .ok (.ldc_w 265, 3) := by decide +kernel
theorem dJ6_bitCount_0f7a4_7 : decode cJ6_bitCount_0f7a4 7 = .ok (.iand, 1) := by decide +kernel
theorem dJ6_bitCount_0f7a4_8 : decode cJ6_bitCount_0f7a4 8 = .ok (.isub, 1) := by decide +kernel
theorem dJ6_bitCount_0f7a4_9 : decode cJ6_bitCount_0f7a4 9 = .ok (.istore_n 0, 1) := by decide +kernel
theorem dJ6_bitCount_0f7a4_10 : decode cJ6_bitCount_0f7a4 10 = .ok (.iload_n 0, 1) := by decide +kernel
theorem dJ6_bitCount_0f7a4_11 : decode cJ6_bitCount_0f7a4 11 = .ok (.ldc_w 266, 3) := by decide +kernel
theorem dJ6_bitCount_0f7a4_14 : decode cJ6_bitCount_0f7a4 14 = .ok (.iand, 1) := by decide +kernel
theorem dJ6_bitCount_0f7a4_15 : decode cJ6_bitCount_0f7a4 15 = .ok (.iload_n 0, 1) := by decide +kernel
theorem dJ6_bitCount_0f7a4_16 : decode cJ6_bitCount_0f7a4 16 = .ok (.iconst 2, 1) := by decide +kernel
theorem dJ6_bitCount_0f7a4_17 : decode cJ6_bitCount_0f7a4 17 = .ok (.iushr, 1) := by decide +kernel
theorem dJ6_bitCount_0f7a4_18 : decode cJ6_bitCount_0f7a4 18 = .ok (.ldc_w 266, 3) := by decide +kernel
theorem dJ6_bitCount_0f7a4_21 : decode cJ6_bitCount_0f7a4 21 = .ok (.iand, 1) := by decide +kernel
theorem dJ6_bitCount_0f7a4_22 : decode cJ6_bitCount_0f7a4 22 = .ok (.iadd, 1) := by decide +kernel
theorem dJ6_bitCount_0f7a4_23 : decode cJ6_bitCount_0f7a4 23 = .ok (.istore_n 0, 1) := by decide +kernel
theorem dJ6_bitCount_0f7a4_24 : decode cJ6_bitCount_0f7a4 24 = .ok (.iload_n 0, 1) := by decide +kernel
theorem dJ6_bitCount_0f7a4_25 : decode cJ6_bitCount_0f7a4 25 = .ok (.iload_n 0, 1) := by decide +kernel
theorem dJ6_bitCount_0f7a4_26 : decode cJ6_bitCount_0f7a4 26 = .ok (.iconst 4, 1) := by decide +kernel
theorem dJ6_bitCount_0f7a4_27 : decode cJ6_bitCount_0f7a4 27 = .ok (.iushr, 1) := by decide +kernel
theorem dJ6_bitCount_0f7a4_28 : decode cJ6_bitCount_0f7a4 28 = .ok (.iadd, 1) := by decide +kernel
theorem dJ6_bitCount_0f7a4_29 : decode cJ6_bitCount_0f7a4 29 = .ok (.ldc_w 267, 3) := by decide +kernel
theorem dJ6_bitCount_0f7a4_32 : decode cJ6_bitCount_0f7a4 32 = .ok (.iand, 1) := by decide +kernel
theorem dJ6_bitCount_0f7a4_33 : decode cJ6_bitCount_0f7a4 33 = .ok (.istore_n 0, 1) := by decide +kernel
theorem dJ6_bitCount_0f7a4_34 : decode cJ6_bitCount_0f7a4 34 = .ok (.iload_n 0, 1) := by decide +kernel
theorem dJ6_bitCount_0f7a4_35 : decode cJ6_bitCount_0f7a4 35 = .ok (.iload_n 0, 1) := by decide +kernel
theorem dJ6_bitCount_0f7a4_36 : decode cJ6_bitCount_0f7a4 36 = .ok (.bipush 8, 2) := by decide +kernel
theorem dJ6_bitCount_0f7a4_38 : decode cJ6_bitCount_0f7a4 38 = .ok (.iushr, 1) := by decide +kernel
theorem dJ6_bitCount_0f7a4_39 : decode cJ6_bitCount_0f7a4 39 = .ok (.iadd, 1) := by decide +kernel
theorem dJ6_bitCount_0f7a4_40 : decode cJ6_bitCount_0f7a4 40 = .ok (.istore_n 0, 1) := by decide +kernel
theorem dJ6_bitCount_0f7a4_41 : decode cJ6_bitCount_0f7a4 41 = .ok (.iload_n 0, 1) := by decide +kernel
theorem dJ6_bitCount_0f7a4_42 : decode cJ6_bitCount_0f7a4 42 = .ok (.iload_n 0, 1) := by decide +kernel
theorem dJ6_bitCount_0f7a4_43 : decode cJ6_bitCount_0f7a4 43 = .ok (.bipush 16, 2) := by decide +kernel
theorem dJ6_bitCount_0f7a4_45 : decode cJ6_bitCount_0f7a4 45 = .ok (.iushr, 1) := by decide +kernel
theorem dJ6_bitCount_0f7a4_46 : decode cJ6_bitCount_0f7a4 46 = .ok (.iadd, 1) := by decide +kernel
theorem dJ6_bitCount_0f7a4_47 : decode cJ6_bitCount_0f7a4 47 = .ok (.istore_n 0, 1) := by decide +kernel
theorem dJ6_bitCount_0f7a4_48 : decode cJ6_bitCount_0f7a4 48 = .ok (.iload_n 0, 1) := by decide +kernel
theorem dJ6_bitCount_0f7a4_49 : decode cJ6_bitCount_0f7a4 49 = .ok (.bipush 63, 2) := by decide +kernel
theorem dJ6_bitCount_0f7a4_51 : decode cJ6_bitCount_0f7a4 51 = .ok (.iand, 1) := by decide +kernel
theorem dJ6_bitCount_0f7a4_52 : decode cJ6_bitCount_0f7a4 52 = .ok (.ireturn, 1) := by decide +kernel
theorem dJ9_max_7cf53_0 : decode cJ9_max_7cf53 0 = .ok (.iload_n 0, 1) := by decide +kernel
theorem dJ9_max_7cf53_1 : decode cJ9_max_7cf53 1 = .ok (.iload_n 1, 1) := by decide +kernel
theorem dJ9_max_7cf53_2 : decode cJ9_max_7cf53 2 = .ok (.if_icmp .lt 7, 3) := by decide +kernel
theorem dJ9_max_7cf53_5 : decode cJ9_max_7cf53 5 = .ok (.iload_n 0, 1) := by decide +kernel
theorem dJ9_max_7cf53_6 : decode cJ9_max_7cf53 6 = .ok (.goto 4, 3) := by decide +kernel
theorem dJ9_max_7cf53_9 : decode cJ9_max_7cf53 9 = .ok (.iload_n 1, 1) := by decide +kernel
theorem dJ9_max_7cf53_10 : decode cJ9_max_7cf53 10 = .ok (.ireturn, 1) := by decide +kernel
theorem dJ9_min_7cf53_0 : decode cJ9_min_7cf53 0 = .ok (.iload_n 0, 1) := by decide +kernel
theorem dJ9_min_7cf53_1 : decode cJ9_min_7cf53 1 = .ok (.iload_n 1, 1) := by decide +kernel
theorem dJ9_min_7cf53_2 : decode cJ9_min_7cf53 2 = .ok (.if_icmp .gt 7, 3) := by decide +kernel
theorem dJ9_min_7cf53_5 : decode cJ9_min_7cf53 5 = .ok (.iload_n 0, 1) := by decide +kernel
theorem dJ9_min_7cf53_6 : decode cJ9_min_7cf53 6 = .ok (.goto 4, 3) := by decide +kernel
theorem dJ9_min_7cf53_9 : decode cJ9_min_7cf53 9 = .ok (.iload_n 1, 1) := by decide +kernel
theorem dJ9_min_7cf53_10 : decode cJ9_min_7cf53 10 = .ok (.ireturn, 1) := by decide +kernel
abbrev vwCl : List vw_C := [(RX0, TX0, 2), (RX1, TX1, 4), (RX2, TX2, 5), (RX3, TX3, 3), (RX4, TX4, 8), (RX5, TX5, 5), (RX6, TX6, 5), (RX7, TX7, 7), (RX8, TX8, 7), (RX9, TX9, 9), (RX10, TX10, 25)]

