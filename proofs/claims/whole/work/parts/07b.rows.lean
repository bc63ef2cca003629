theorem dX10_tries_95 : decode cX10_tries 95 = .ok (.aload_n 0, 1) := by decide +kernel
theorem dX10_tries_96 : decode cX10_tries 96 = .ok (.getfield 60, 3) := by decide +kernel
theorem dX10_tries_99 : decode cX10_tries 99 = .ok (.iload_n 1, 1) := by decide +kernel
theorem dX10_tries_100 : decode cX10_tries 100 = .ok (.iload_n 3, 1) := by decide +kernel
theorem dX10_tries_101 : decode cX10_tries 101 = .ok (.iconst 1, 1) := by decide +kernel
theorem dX10_tries_102 : decode cX10_tries 102 = .ok (.iadd, 1) := by decide +kernel
theorem dX10_tries_103 : decode cX10_tries 103 = .ok (.iastore, 1) := by decide +kernel
theorem dX10_tries_104 : decode cX10_tries 104 = .ok (.aload_n 0, 1) := by decide +kernel
theorem dX10_tries_105 : decode cX10_tries 105 = .ok (.getfield 41, 3) := by decide +kernel
theorem dX10_tries_108 : decode cX10_tries 108 = .ok (.iload_n 3, 1) := by decide +kernel
theorem dX10_tries_109 : decode cX10_tries 109 = .ok (.iaload, 1) := by decide +kernel
theorem dX10_tries_110 : decode cX10_tries 110 = .ok (.istore 4, 2) := by decide +kernel
theorem dX10_tries_112 : decode cX10_tries 112 = .ok (.aload_n 0, 1) := by decide +kernel
theorem dX10_tries_113 : decode cX10_tries 113 = .ok (.iload_n 1, 1) := by decide +kernel
theorem dX10_tries_114 : decode cX10_tries 114 = .ok (.aload_n 0, 1) := by decide +kernel
theorem dX10_tries_115 : decode cX10_tries 115 = .ok (.getfield 44, 3) := by decide +kernel
theorem dX10_tries_118 : decode cX10_tries 118 = .ok (.iload 4, 2) := by decide +kernel
theorem dX10_tries_120 : decode cX10_tries 120 = .ok (.iaload, 1) := by decide +kernel
theorem dX10_tries_121 : decode cX10_tries 121 = .ok (.invokevirtual 234, 3) := by decide +kernel
theorem dX10_tries_124 : decode cX10_tries 124 = .ok (.aload_n 0, 1) := by decide +kernel
theorem dX10_tries_125 : decode cX10_tries 125 = .ok (.iload_n 1, 1) := by decide +kernel
theorem dX10_tries_126 : decode cX10_tries 126 = .ok (.iconst 1, 1) := by decide +kernel
theorem dX10_tries_127 : decode cX10_tries 127 = .ok (.iadd, 1) := by decide +kernel
theorem dX10_tries_128 : decode cX10_tries 128 = .ok (.iload_n 3, 1) := by decide +kernel
theorem dX10_tries_129 : decode cX10_tries 129 = .ok (.invokevirtual 221, 3) := by decide +kernel
theorem dX10_tries_132 : decode cX10_tries 132 = .ok (.aload_n 0, 1) := by decide +kernel
theorem dX10_tries_133 : decode cX10_tries 133 = .ok (.iload_n 1, 1) := by decide +kernel
theorem dX10_tries_134 : decode cX10_tries 134 = .ok (.iconst 1, 1) := by decide +kernel
theorem dX10_tries_135 : decode cX10_tries 135 = .ok (.iadd, 1) := by decide +kernel
theorem dX10_tries_136 : decode cX10_tries 136 = .ok (.aload_n 0, 1) := by decide +kernel
theorem dX10_tries_137 : decode cX10_tries 137 = .ok (.getfield 41, 3) := by decide +kernel
theorem dX10_tries_140 : decode cX10_tries 140 = .ok (.iload 4, 2) := by decide +kernel
theorem dX10_tries_142 : decode cX10_tries 142 = .ok (.iaload, 1) := by decide +kernel
theorem dX10_tries_143 : decode cX10_tries 143 = .ok (.invokevirtual 225, 3) := by decide +kernel
theorem dX10_tries_146 : decode cX10_tries 146 = .ok (.aload_n 0, 1) := by decide +kernel
theorem dX10_tries_147 : decode cX10_tries 147 = .ok (.iload_n 1, 1) := by decide +kernel
theorem dX10_tries_148 : decode cX10_tries 148 = .ok (.iconst 1, 1) := by decide +kernel
theorem dX10_tries_149 : decode cX10_tries 149 = .ok (.iadd, 1) := by decide +kernel
theorem dX10_tries_150 : decode cX10_tries 150 = .ok (.aload_n 0, 1) := by decide +kernel
theorem dX10_tries_151 : decode cX10_tries 151 = .ok (.aload_n 0, 1) := by decide +kernel
theorem dX10_tries_152 : decode cX10_tries 152 = .ok (.getfield 44, 3) := by decide +kernel
theorem dX10_tries_155 : decode cX10_tries 155 = .ok (.iload 4, 2) := by decide +kernel
theorem dX10_tries_157 : decode cX10_tries 157 = .ok (.iaload, 1) := by decide +kernel
theorem dX10_tries_158 : decode cX10_tries 158 = .ok (.aload_n 0, 1) := by decide +kernel
theorem dX10_tries_159 : decode cX10_tries 159 = .ok (.getfield 44, 3) := by decide +kernel
theorem dX10_tries_162 : decode cX10_tries 162 = .ok (.iload_n 3, 1) := by decide +kernel
theorem dX10_tries_163 : decode cX10_tries 163 = .ok (.iaload, 1) := by decide +kernel
theorem dX10_tries_164 : decode cX10_tries 164 = .ok (.invokevirtual 205, 3) := by decide +kernel
theorem dX10_tries_167 : decode cX10_tries 167 = .ok (.invokevirtual 225, 3) := by decide +kernel
theorem dX10_tries_170 : decode cX10_tries 170 = .ok (.iconst 2, 1) := by decide +kernel
theorem dX10_tries_171 : decode cX10_tries 171 = .ok (.ireturn, 1) := by decide +kernel
set_option maxRecDepth 20000 in
theorem ggX10_goesOn_X10_tries_h : GoodIn wsX10_goesOn [Cond.code yX10_tries cX10_tries 5 (some .int)] := goodIn_r _ [9] (by decide +kernel) (by decide +kernel)
set_option maxRecDepth 20000 in
theorem ggX10_goesOn_X10_tries_0 : GoodIn wsX10_goesOn wsX10_tries_r1 := goodIn_r _ [1, 4, 2, 10, 3, 11, 12, 13, 8, 14, 15, 16, 17, 18, 19, 20, 21, 22, 23, 24, 25, 26, 27, 28] (by decide +kernel) (by decide +kernel)
set_option maxRecDepth 20000 in
theorem ggX10_goesOn_X10_tries_1 : GoodIn wsX10_goesOn wsX10_tries_r2 := goodIn_r _ [29, 30, 31, 32, 33, 34, 35, 36, 37, 38, 39, 40, 41, 42, 43, 44, 45, 46, 47, 48, 49, 50, 51, 52] (by decide +kernel) (by decide +kernel)
set_option maxRecDepth 20000 in
theorem ggX10_goesOn_X10_tries_2 : GoodIn wsX10_goesOn wsX10_tries_r3 := goodIn_r _ [53, 54, 55, 56, 57, 58, 59, 60, 61, 62, 63, 64, 65, 66, 67, 68] (by decide +kernel) (by decide +kernel)
set_option maxRecDepth 20000 in
theorem ggX10_goesOn_X10_tries_3 : GoodIn wsX10_goesOn wsX100 := goodIn_r _ [69, 70, 71, 72, 73, 74, 75, 76, 77, 78, 79, 80, 81, 82, 83, 84, 85, 86, 87, 88, 89, 90, 91, 92, 93] (by decide +kernel) (by decide +kernel)
theorem ggX10_goesOn_X10_tries : GoodIn wsX10_goesOn wsX10_tries := goodIn_app ggX10_goesOn_X10_tries_h (goodIn_app (goodIn_app ggX10_goesOn_X10_tries_0 (goodIn_app ggX10_goesOn_X10_tries_1 ggX10_goesOn_X10_tries_2)) ggX10_goesOn_X10_tries_3)
set_option maxRecDepth 20000 in
theorem gX10_goesOn_X10_tries : GoodIn wsX10_goesOn (wsV RX10 240 RX10 yX10_tries wsX10_tries) := goodIn_app (goodIn_of _ (by decide +kernel)) ggX10_goesOn_X10_tries
set_option maxRecDepth 20000 in
theorem ggX10_goesOn_X10_leadsOn : GoodIn wsX10_goesOn wsX10_leadsOn := goodIn_r _ [14, 15, 1, 2, 69, 70, 71, 72, 73, 74, 75, 76, 77, 78, 79, 80, 81, 82, 83, 84, 85, 86, 87, 88, 89, 90, 91, 92, 93] (by decide +kernel) (by decide +kernel)
set_option maxRecDepth 20000 in
theorem gX10_goesOn_X10_leadsOn : GoodIn wsX10_goesOn (wsV RX10 234 RX10 yX10_leadsOn wsX10_leadsOn) := goodIn_app (goodIn_of _ (by decide +kernel)) ggX10_goesOn_X10_leadsOn
set_option maxRecDepth 20000 in
theorem ggX10_goesOn_X10_loses : GoodIn wsX10_goesOn wsX10_loses := goodIn_r _ [29, 15, 69, 70, 71, 72, 73, 74, 75, 76, 77, 78, 79, 80, 81, 82, 83, 84, 85, 86, 87, 88, 89, 90, 91, 92, 93] (by decide +kernel) (by decide +kernel)
set_option maxRecDepth 20000 in
theorem gX10_goesOn_X10_loses : GoodIn wsX10_goesOn (wsV RX10 221 RX10 yX10_loses wsX10_loses) := goodIn_app (goodIn_of _ (by decide +kernel)) ggX10_goesOn_X10_loses
set_option maxRecDepth 20000 in
theorem ggX10_goesOn_X10_gets : GoodIn wsX10_goesOn wsX10_gets := goodIn_r _ [33, 15, 69, 70, 71, 72, 73, 74, 75, 76, 77, 78, 79, 80, 81, 82, 83, 84, 85, 86, 87, 88, 89, 90, 91, 92, 93] (by decide +kernel) (by decide +kernel)
set_option maxRecDepth 20000 in
theorem gX10_goesOn_X10_gets : GoodIn wsX10_goesOn (wsV RX10 225 RX10 yX10_gets wsX10_gets) := goodIn_app (goodIn_of _ (by decide +kernel)) ggX10_goesOn_X10_gets
theorem dX10_goesOn_0 : decode cX10_goesOn 0 = .ok (.aload_n 0, 1) := by decide +kernel
theorem dX10_goesOn_1 : decode cX10_goesOn 1 = .ok (.getfield 54, 3) := by decide +kernel
theorem dX10_goesOn_4 : decode cX10_goesOn 4 = .ok (.iload_n 1, 1) := by decide +kernel
theorem dX10_goesOn_5 : decode cX10_goesOn 5 = .ok (.iaload, 1) := by decide +kernel
theorem dX10_goesOn_6 : decode cX10_goesOn 6 = .ok (.istore_n 3, 1) := by decide +kernel
theorem dX10_goesOn_7 : decode cX10_goesOn 7 = .ok (.aload_n 0, 1) := by decide +kernel
theorem dX10_goesOn_8 : decode cX10_goesOn 8 = .ok (.getfield 57, 3) := by decide +kernel
theorem dX10_goesOn_11 : decode cX10_goesOn 11 = .ok (.iload_n 1, 1) := by decide +kernel
theorem dX10_goesOn_12 : decode cX10_goesOn 12 = .ok (.iaload, 1) := by decide +kernel
theorem dX10_goesOn_13 : decode cX10_goesOn 13 = .ok (.iconst 5, 1) := by decide +kernel
theorem dX10_goesOn_14 : decode cX10_goesOn 14 = .ok (.if_icmp .ne 5, 3) := by decide +kernel
theorem dX10_goesOn_17 : decode cX10_goesOn 17 = .ok (.iload_n 2, 1) := by decide +kernel
theorem dX10_goesOn_18 : decode cX10_goesOn 18 = .ok (.ireturn, 1) := by decide +kernel
theorem dX10_goesOn_19 : decode cX10_goesOn 19 = .ok (.aload_n 0, 1) := by decide +kernel
theorem dX10_goesOn_20 : decode cX10_goesOn 20 = .ok (.getfield 57, 3) := by decide +kernel
theorem dX10_goesOn_23 : decode cX10_goesOn 23 = .ok (.iload_n 1, 1) := by decide +kernel
theorem dX10_goesOn_24 : decode cX10_goesOn 24 = .ok (.iaload, 1) := by decide +kernel
theorem dX10_goesOn_25 : decode cX10_goesOn 25 = .ok (.iconst 3, 1) := by decide +kernel
theorem dX10_goesOn_26 : decode cX10_goesOn 26 = .ok (.if_icmp .ne 18, 3) := by decide +kernel
theorem dX10_goesOn_29 : decode cX10_goesOn 29 = .ok (.iload_n 2, 1) := by decide +kernel
theorem dX10_goesOn_30 : decode cX10_goesOn 30 = .ok (.iconst 1, 1) := by decide +kernel
theorem dX10_goesOn_31 : decode cX10_goesOn 31 = .ok (.if_icmp .ne 7, 3) := by decide +kernel
theorem dX10_goesOn_34 : decode cX10_goesOn 34 = .ok (.iconst 1, 1) := by decide +kernel
theorem dX10_goesOn_35 : decode cX10_goesOn 35 = .ok (.goto 8, 3) := by decide +kernel
theorem dX10_goesOn_38 : decode cX10_goesOn 38 = .ok (.aload_n 0, 1) := by decide +kernel
theorem dX10_goesOn_39 : decode cX10_goesOn 39 = .ok (.iload_n 1, 1) := by decide +kernel
theorem dX10_goesOn_40 : decode cX10_goesOn 40 = .ok (.invokevirtual 240, 3) := by decide +kernel
theorem dX10_goesOn_43 : decode cX10_goesOn 43 = .ok (.ireturn, 1) := by decide +kernel
theorem dX10_goesOn_44 : decode cX10_goesOn 44 = .ok (.iload_n 2, 1) := by decide +kernel
theorem dX10_goesOn_45 : decode cX10_goesOn 45 = .ok (.ifCond .ne 23, 3) := by decide +kernel
theorem dX10_goesOn_48 : decode cX10_goesOn 48 = .ok (.aload_n 0, 1) := by decide +kernel
theorem dX10_goesOn_49 : decode cX10_goesOn 49 = .ok (.getfield 57, 3) := by decide +kernel
theorem dX10_goesOn_52 : decode cX10_goesOn 52 = .ok (.iload_n 1, 1) := by decide +kernel
theorem dX10_goesOn_53 : decode cX10_goesOn 53 = .ok (.iaload, 1) := by decide +kernel
theorem dX10_goesOn_54 : decode cX10_goesOn 54 = .ok (.iconst 4, 1) := by decide +kernel
theorem dX10_goesOn_55 : decode cX10_goesOn 55 = .ok (.if_icmp .ne 11, 3) := by decide +kernel
theorem dX10_goesOn_58 : decode cX10_goesOn 58 = .ok (.aload_n 0, 1) := by decide +kernel
theorem dX10_goesOn_59 : decode cX10_goesOn 59 = .ok (.iload_n 1, 1) := by decide +kernel
theorem dX10_goesOn_60 : decode cX10_goesOn 60 = .ok (.invokevirtual 240, 3) := by decide +kernel
theorem dX10_goesOn_63 : decode cX10_goesOn 63 = .ok (.goto 4, 3) := by decide +kernel
theorem dX10_goesOn_66 : decode cX10_goesOn 66 = .ok (.iconst 0, 1) := by decide +kernel
theorem dX10_goesOn_67 : decode cX10_goesOn 67 = .ok (.ireturn, 1) := by decide +kernel
theorem dX10_goesOn_68 : decode cX10_goesOn 68 = .ok (.aload_n 0, 1) := by decide +kernel
theorem dX10_goesOn_69 : decode cX10_goesOn 69 = .ok (.getfield 57, 3) := by decide +kernel
theorem dX10_goesOn_72 : decode cX10_goesOn 72 = .ok (.iload_n 1, 1) := by decide +kernel
theorem dX10_goesOn_73 : decode cX10_goesOn 73 = .ok (.iaload, 1) := by decide +kernel
theorem dX10_goesOn_74 : decode cX10_goesOn 74 = .ok (.iconst 1, 1) := by decide +kernel
theorem dX10_goesOn_75 : decode cX10_goesOn 75 = .ok (.if_icmp .ne 17, 3) := by decide +kernel
theorem dX10_goesOn_78 : decode cX10_goesOn 78 = .ok (.aload_n 0, 1) := by decide +kernel
theorem dX10_goesOn_79 : decode cX10_goesOn 79 = .ok (.iload_n 1, 1) := by decide +kernel
theorem dX10_goesOn_80 : decode cX10_goesOn 80 = .ok (.aload_n 0, 1) := by decide +kernel
theorem dX10_goesOn_81 : decode cX10_goesOn 81 = .ok (.getfield 44, 3) := by decide +kernel
theorem dX10_goesOn_84 : decode cX10_goesOn 84 = .ok (.iload_n 3, 1) := by decide +kernel
theorem dX10_goesOn_85 : decode cX10_goesOn 85 = .ok (.iaload, 1) := by decide +kernel
theorem dX10_goesOn_86 : decode cX10_goesOn 86 = .ok (.invokevirtual 234, 3) := by decide +kernel
theorem dX10_goesOn_89 : decode cX10_goesOn 89 = .ok (.goto 92, 3) := by decide +kernel
theorem dX10_goesOn_92 : decode cX10_goesOn 92 = .ok (.aload_n 0, 1) := by decide +kernel
theorem dX10_goesOn_93 : decode cX10_goesOn 93 = .ok (.getfield 57, 3) := by decide +kernel
theorem dX10_goesOn_96 : decode cX10_goesOn 96 = .ok (.iload_n 1, 1) := by decide +kernel
theorem dX10_goesOn_97 : decode cX10_goesOn 97 = .ok (.iaload, 1) := by decide +kernel
theorem dX10_goesOn_98 : decode cX10_goesOn 98 = .ok (.iconst 2, 1) := by decide +kernel
theorem dX10_goesOn_99 : decode cX10_goesOn 99 = .ok (.if_icmp .ne 43, 3) := by decide +kernel
theorem dX10_goesOn_102 : decode cX10_goesOn 102 = .ok (.aload_n 0, 1) := by decide +kernel
theorem dX10_goesOn_103 : decode cX10_goesOn 103 = .ok (.iload_n 1, 1) := by decide +kernel
theorem dX10_goesOn_104 : decode cX10_goesOn 104 = .ok (.iload_n 3, 1) := by decide +kernel
theorem dX10_goesOn_105 : decode cX10_goesOn 105 = .ok (.invokevirtual 234, 3) := by decide +kernel
theorem dX10_goesOn_108 : decode cX10_goesOn 108 = .ok (.aload_n 0, 1) := by decide +kernel
theorem dX10_goesOn_109 : decode cX10_goesOn 109 = .ok (.iload_n 1, 1) := by decide +kernel
theorem dX10_goesOn_110 : decode cX10_goesOn 110 = .ok (.iconst 1, 1) := by decide +kernel
theorem dX10_goesOn_111 : decode cX10_goesOn 111 = .ok (.iadd, 1) := by decide +kernel
theorem dX10_goesOn_112 : decode cX10_goesOn 112 = .ok (.aload_n 0, 1) := by decide +kernel
theorem dX10_goesOn_113 : decode cX10_goesOn 113 = .ok (.getfield 60, 3) := by decide +kernel
theorem dX10_goesOn_116 : decode cX10_goesOn 116 = .ok (.iload_n 1, 1) := by decide +kernel
theorem dX10_goesOn_117 : decode cX10_goesOn 117 = .ok (.iaload, 1) := by decide +kernel
theorem dX10_goesOn_118 : decode cX10_goesOn 118 = .ok (.invokevirtual 221, 3) := by decide +kernel
theorem dX10_goesOn_121 : decode cX10_goesOn 121 = .ok (.aload_n 0, 1) := by decide +kernel
theorem dX10_goesOn_122 : decode cX10_goesOn 122 = .ok (.iload_n 1, 1) := by decide +kernel
theorem dX10_goesOn_123 : decode cX10_goesOn 123 = .ok (.iconst 1, 1) := by decide +kernel
theorem dX10_goesOn_124 : decode cX10_goesOn 124 = .ok (.iadd, 1) := by decide +kernel
theorem dX10_goesOn_125 : decode cX10_goesOn 125 = .ok (.aload_n 0, 1) := by decide +kernel
theorem dX10_goesOn_126 : decode cX10_goesOn 126 = .ok (.getfield 44, 3) := by decide +kernel
theorem dX10_goesOn_129 : decode cX10_goesOn 129 = .ok (.aload_n 0, 1) := by decide +kernel
theorem dX10_goesOn_130 : decode cX10_goesOn 130 = .ok (.getfield 60, 3) := by decide +kernel
theorem dX10_goesOn_133 : decode cX10_goesOn 133 = .ok (.iload_n 1, 1) := by decide +kernel
theorem dX10_goesOn_134 : decode cX10_goesOn 134 = .ok (.iaload, 1) := by decide +kernel
theorem dX10_goesOn_135 : decode cX10_goesOn 135 = .ok (.iaload, 1) := by decide +kernel
theorem dX10_goesOn_136 : decode cX10_goesOn 136 = .ok (.invokevirtual 225, 3) := by decide +kernel
theorem dX10_goesOn_139 : decode cX10_goesOn 139 = .ok (.goto 42, 3) := by decide +kernel
theorem dX10_goesOn_142 : decode cX10_goesOn 142 = .ok (.aload_n 0, 1) := by decide +kernel
theorem dX10_goesOn_143 : decode cX10_goesOn 143 = .ok (.getfield 60, 3) := by decide +kernel
theorem dX10_goesOn_146 : decode cX10_goesOn 146 = .ok (.iload_n 1, 1) := by decide +kernel
theorem dX10_goesOn_147 : decode cX10_goesOn 147 = .ok (.iaload, 1) := by decide +kernel
theorem dX10_goesOn_148 : decode cX10_goesOn 148 = .ok (.iconst 1, 1) := by decide +kernel
theorem dX10_goesOn_149 : decode cX10_goesOn 149 = .ok (.isub, 1) := by decide +kernel
theorem dX10_goesOn_150 : decode cX10_goesOn 150 = .ok (.istore 4, 2) := by decide +kernel
theorem dX10_goesOn_152 : decode cX10_goesOn 152 = .ok (.aload_n 0, 1) := by decide +kernel
theorem dX10_goesOn_153 : decode cX10_goesOn 153 = .ok (.iload_n 1, 1) := by decide +kernel
theorem dX10_goesOn_154 : decode cX10_goesOn 154 = .ok (.iload_n 3, 1) := by decide +kernel
theorem dX10_goesOn_155 : decode cX10_goesOn 155 = .ok (.invokevirtual 234, 3) := by decide +kernel
theorem dX10_goesOn_158 : decode cX10_goesOn 158 = .ok (.aload_n 0, 1) := by decide +kernel
theorem dX10_goesOn_159 : decode cX10_goesOn 159 = .ok (.iload_n 1, 1) := by decide +kernel
theorem dX10_goesOn_160 : decode cX10_goesOn 160 = .ok (.iconst 1, 1) := by decide +kernel
theorem dX10_goesOn_161 : decode cX10_goesOn 161 = .ok (.iadd, 1) := by decide +kernel
theorem dX10_goesOn_162 : decode cX10_goesOn 162 = .ok (.iload 4, 2) := by decide +kernel
theorem dX10_goesOn_164 : decode cX10_goesOn 164 = .ok (.invokevirtual 221, 3) := by decide +kernel
theorem dX10_goesOn_167 : decode cX10_goesOn 167 = .ok (.aload_n 0, 1) := by decide +kernel
theorem dX10_goesOn_168 : decode cX10_goesOn 168 = .ok (.iload_n 1, 1) := by decide +kernel
theorem dX10_goesOn_169 : decode cX10_goesOn 169 = .ok (.iconst 1, 1) := by decide +kernel
theorem dX10_goesOn_170 : decode cX10_goesOn 170 = .ok (.iadd, 1) := by decide +kernel
theorem dX10_goesOn_171 : decode cX10_goesOn 171 = .ok (.aload_n 0, 1) := by decide +kernel
theorem dX10_goesOn_172 : decode cX10_goesOn 172 = .ok (.getfield 44, 3) := by decide +kernel
theorem dX10_goesOn_175 : decode cX10_goesOn 175 = .ok (.iload 4, 2) := by decide +kernel
theorem dX10_goesOn_177 : decode cX10_goesOn 177 = .ok (.iaload, 1) := by decide +kernel
theorem dX10_goesOn_178 : decode cX10_goesOn 178 = .ok (.invokevirtual 225, 3) := by decide +kernel
theorem dX10_goesOn_181 : decode cX10_goesOn 181 = .ok (.aload_n 0, 1) := by decide +kernel
theorem dX10_goesOn_182 : decode cX10_goesOn 182 = .ok (.getfield 57, 3) := by decide +kernel
theorem dX10_goesOn_185 : decode cX10_goesOn 185 = .ok (.iload_n 1, 1) := by decide +kernel
theorem dX10_goesOn_186 : decode cX10_goesOn 186 = .ok (.iconst 5, 1) := by decide +kernel
theorem dX10_goesOn_187 : decode cX10_goesOn 187 = .ok (.iastore, 1) := by decide +kernel
theorem dX10_goesOn_188 : decode cX10_goesOn 188 = .ok (.iconst 2, 1) := by decide +kernel
theorem dX10_goesOn_189 : decode cX10_goesOn 189 = .ok (.ireturn, 1) := by decide +kernel
set_option maxRecDepth 20000 in
theorem ggX10_isShown_X10_goesOn_h : GoodIn wsX10_isShown [Cond.code yX10_goesOn cX10_goesOn 5 (some .int)] := goodIn_r _ [6] (by decide +kernel) (by decide +kernel)
set_option maxRecDepth 20000 in
theorem ggX10_isShown_X10_goesOn_0 : GoodIn wsX10_isShown wsX10_goesOn_r1 := goodIn_r _ [7, 1, 8, 9, 10, 11, 12, 5, 13, 14, 15, 16, 17, 18, 19, 20, 21, 22, 23, 24, 25, 26, 27, 28] (by decide +kernel) (by decide +kernel)
set_option maxRecDepth 20000 in
theorem ggX10_isShown_X10_goesOn_1 : GoodIn wsX10_isShown wsX10_goesOn_r2 := goodIn_r _ [29, 30, 31, 32, 33, 34, 35, 36, 37, 38, 39, 40, 41, 42, 43, 44, 45, 46, 47, 48, 49, 50, 51, 52] (by decide +kernel) (by decide +kernel)
set_option maxRecDepth 20000 in
theorem ggX10_isShown_X10_goesOn_2 : GoodIn wsX10_isShown wsX10_goesOn_r3 := goodIn_r _ [53, 54, 55, 56, 57, 58, 59, 60, 61, 62, 63, 64, 65, 66, 67, 68, 69, 70, 71, 72] (by decide +kernel) (by decide +kernel)
set_option maxRecDepth 20000 in
theorem ggX10_isShown_X10_goesOn_3 : GoodIn wsX10_isShown wsX100 := goodIn_r _ [93, 94, 95, 96, 97, 98, 99, 100, 101, 102, 103, 104, 105, 106, 107, 108, 109, 110, 111, 112, 113, 114, 115, 116, 117] (by decide +kernel) (by decide +kernel)
theorem ggX10_isShown_X10_goesOn : GoodIn wsX10_isShown wsX10_goesOn := goodIn_app ggX10_isShown_X10_goesOn_h (goodIn_app (goodIn_app ggX10_isShown_X10_goesOn_0 (goodIn_app ggX10_isShown_X10_goesOn_1 ggX10_isShown_X10_goesOn_2)) ggX10_isShown_X10_goesOn_3)
set_option maxRecDepth 20000 in
theorem gX10_isShown_X10_goesOn : GoodIn wsX10_isShown (wsV RX10 243 RX10 yX10_goesOn wsX10_goesOn) := goodIn_app (goodIn_of _ (by decide +kernel)) ggX10_isShown_X10_goesOn
set_option maxRecDepth 20000 in
theorem ggX10_isShown_X10_settles_h : GoodIn wsX10_isShown [Cond.code yX10_settles cX10_settles 4 (some .int)] := goodIn_r _ [76] (by decide +kernel) (by decide +kernel)
set_option maxRecDepth 20000 in
theorem ggX10_isShown_X10_settles_0 : GoodIn wsX10_isShown wsX10_settles_r1 := goodIn_r _ [25, 7, 14, 8, 24, 30, 31, 32, 5, 33, 19, 34, 35, 36, 37, 26, 27, 28, 29, 77, 78, 79, 80, 38] (by decide +kernel) (by decide +kernel)
set_option maxRecDepth 20000 in
theorem ggX10_isShown_X10_settles_1 : GoodIn wsX10_isShown wsX10_settles_r2 := goodIn_r _ [39, 40, 41, 42, 43, 44, 45, 46, 47, 48, 49, 50, 51, 52, 53, 54, 55, 56, 57, 58, 59, 60, 61, 62] (by decide +kernel) (by decide +kernel)
set_option maxRecDepth 20000 in
theorem ggX10_isShown_X10_settles_2 : GoodIn wsX10_isShown wsX10_settles_r3 := goodIn_r _ [63, 64, 65, 66, 67, 68, 69, 70, 71, 72, 81, 82, 83, 84, 85, 86, 87, 88] (by decide +kernel) (by decide +kernel)
set_option maxRecDepth 20000 in
theorem ggX10_isShown_X10_settles_3 : GoodIn wsX10_isShown wsX100 := goodIn_r _ [93, 94, 95, 96, 97, 98, 99, 100, 101, 102, 103, 104, 105, 106, 107, 108, 109, 110, 111, 112, 113, 114, 115, 116, 117] (by decide +kernel) (by decide +kernel)
theorem ggX10_isShown_X10_settles : GoodIn wsX10_isShown wsX10_settles := goodIn_app ggX10_isShown_X10_settles_h (goodIn_app (goodIn_app ggX10_isShown_X10_settles_0 (goodIn_app ggX10_isShown_X10_settles_1 ggX10_isShown_X10_settles_2)) ggX10_isShown_X10_settles_3)
set_option maxRecDepth 20000 in
theorem gX10_isShown_X10_settles : GoodIn wsX10_isShown (wsV RX10 246 RX10 yX10_settles wsX10_settles) := goodIn_app (goodIn_of _ (by decide +kernel)) ggX10_isShown_X10_settles
set_option maxRecDepth 20000 in
theorem ggX10_isShown_X10_begins_h : GoodIn wsX10_isShown [Cond.code yX10_begins cX10_begins 4 (some .int)] := goodIn_r _ [92] (by decide +kernel) (by decide +kernel)
set_option maxRecDepth 20000 in
theorem ggX10_isShown_X10_begins_0 : GoodIn wsX10_isShown wsX10_begins_r1 := goodIn_r _ [7, 25, 1, 14, 9, 15, 16, 17, 5, 18, 19, 20, 21, 22, 23, 24, 26, 27, 28, 29, 30, 31, 32, 33] (by decide +kernel) (by decide +kernel)
set_option maxRecDepth 20000 in
theorem ggX10_isShown_X10_begins_1 : GoodIn wsX10_isShown wsX10_begins_r2 := goodIn_r _ [34, 35, 36, 37, 10, 11, 12, 13, 8, 38, 39, 40, 41, 42, 43, 44, 45, 46, 47, 48, 49, 50, 51, 52] (by decide +kernel) (by decide +kernel)
set_option maxRecDepth 20000 in
theorem ggX10_isShown_X10_begins_2 : GoodIn wsX10_isShown wsX10_begins_r3 := goodIn_r _ [53, 54, 55, 56, 57, 58, 59, 60, 61, 62, 63, 64, 65, 66, 67, 68, 69, 70, 71, 72] (by decide +kernel) (by decide +kernel)
set_option maxRecDepth 20000 in
theorem ggX10_isShown_X10_begins_3 : GoodIn wsX10_isShown wsX100 := goodIn_r _ [93, 94, 95, 96, 97, 98, 99, 100, 101, 102, 103, 104, 105, 106, 107, 108, 109, 110, 111, 112, 113, 114, 115, 116, 117] (by decide +kernel) (by decide +kernel)
theorem ggX10_isShown_X10_begins : GoodIn wsX10_isShown wsX10_begins := goodIn_app ggX10_isShown_X10_begins_h (goodIn_app (goodIn_app ggX10_isShown_X10_begins_0 (goodIn_app ggX10_isShown_X10_begins_1 ggX10_isShown_X10_begins_2)) ggX10_isShown_X10_begins_3)
set_option maxRecDepth 20000 in
theorem gX10_isShown_X10_begins : GoodIn wsX10_isShown (wsV RX10 249 RX10 yX10_begins wsX10_begins) := goodIn_app (goodIn_of _ (by decide +kernel)) ggX10_isShown_X10_begins
theorem dX10_isShown_0 : decode cX10_isShown 0 = .ok (.iconst 0, 1) := by decide +kernel
theorem dX10_isShown_1 : decode cX10_isShown 1 = .ok (.istore_n 1, 1) := by decide +kernel
theorem dX10_isShown_2 : decode cX10_isShown 2 = .ok (.aload_n 0, 1) := by decide +kernel
theorem dX10_isShown_3 : decode cX10_isShown 3 = .ok (.getfield 57, 3) := by decide +kernel
theorem dX10_isShown_6 : decode cX10_isShown 6 = .ok (.iconst 0, 1) := by decide +kernel
theorem dX10_isShown_7 : decode cX10_isShown 7 = .ok (.iconst 0, 1) := by decide +kernel
theorem dX10_isShown_8 : decode cX10_isShown 8 = .ok (.iastore, 1) := by decide +kernel
theorem dX10_isShown_9 : decode cX10_isShown 9 = .ok (.iconst 2, 1) := by decide +kernel
theorem dX10_isShown_10 : decode cX10_isShown 10 = .ok (.istore_n 2, 1) := by decide +kernel
theorem dX10_isShown_11 : decode cX10_isShown 11 = .ok (.iload_n 1, 1) := by decide +kernel
theorem dX10_isShown_12 : decode cX10_isShown 12 = .ok (.ifCond .lt 61, 3) := by decide +kernel
theorem dX10_isShown_15 : decode cX10_isShown 15 = .ok (.iload_n 2, 1) := by decide +kernel
theorem dX10_isShown_16 : decode cX10_isShown 16 = .ok (.iconst 2, 1) := by decide +kernel
theorem dX10_isShown_17 : decode cX10_isShown 17 = .ok (.if_icmp .ge 12, 3) := by decide +kernel
theorem dX10_isShown_20 : decode cX10_isShown 20 = .ok (.aload_n 0, 1) := by decide +kernel
theorem dX10_isShown_21 : decode cX10_isShown 21 = .ok (.iload_n 1, 1) := by decide +kernel
theorem dX10_isShown_22 : decode cX10_isShown 22 = .ok (.iload_n 2, 1) := by decide +kernel
theorem dX10_isShown_23 : decode cX10_isShown 23 = .ok (.invokevirtual 243, 3) := by decide +kernel
theorem dX10_isShown_26 : decode cX10_isShown 26 = .ok (.goto 8, 3) := by decide +kernel
theorem dX10_isShown_29 : decode cX10_isShown 29 = .ok (.aload_n 0, 1) := by decide +kernel
theorem dX10_isShown_30 : decode cX10_isShown 30 = .ok (.iload_n 1, 1) := by decide +kernel
theorem dX10_isShown_31 : decode cX10_isShown 31 = .ok (.invokevirtual 246, 3) := by decide +kernel
theorem dX10_isShown_34 : decode cX10_isShown 34 = .ok (.istore_n 3, 1) := by decide +kernel
theorem dX10_isShown_35 : decode cX10_isShown 35 = .ok (.iload_n 2, 1) := by decide +kernel
theorem dX10_isShown_36 : decode cX10_isShown 36 = .ok (.iconst 2, 1) := by decide +kernel
theorem dX10_isShown_37 : decode cX10_isShown 37 = .ok (.if_icmp .ne 16, 3) := by decide +kernel
theorem dX10_isShown_40 : decode cX10_isShown 40 = .ok (.iload_n 3, 1) := by decide +kernel
theorem dX10_isShown_41 : decode cX10_isShown 41 = .ok (.iconst 2, 1) := by decide +kernel
theorem dX10_isShown_42 : decode cX10_isShown 42 = .ok (.if_icmp .ne 11, 3) := by decide +kernel
theorem dX10_isShown_45 : decode cX10_isShown 45 = .ok (.aload_n 0, 1) := by decide +kernel
theorem dX10_isShown_46 : decode cX10_isShown 46 = .ok (.iload_n 1, 1) := by decide +kernel
theorem dX10_isShown_47 : decode cX10_isShown 47 = .ok (.invokevirtual 249, 3) := by decide +kernel
theorem dX10_isShown_50 : decode cX10_isShown 50 = .ok (.goto 4, 3) := by decide +kernel
theorem dX10_isShown_53 : decode cX10_isShown 53 = .ok (.iload_n 3, 1) := by decide +kernel
theorem dX10_isShown_54 : decode cX10_isShown 54 = .ok (.istore_n 3, 1) := by decide +kernel
theorem dX10_isShown_55 : decode cX10_isShown 55 = .ok (.iload_n 1, 1) := by decide +kernel
theorem dX10_isShown_56 : decode cX10_isShown 56 = .ok (.iload_n 3, 1) := by decide +kernel
theorem dX10_isShown_57 : decode cX10_isShown 57 = .ok (.iconst 2, 1) := by decide +kernel
theorem dX10_isShown_58 : decode cX10_isShown 58 = .ok (.if_icmp .ne 7, 3) := by decide +kernel
theorem dX10_isShown_61 : decode cX10_isShown 61 = .ok (.iconst 1, 1) := by decide +kernel
theorem dX10_isShown_62 : decode cX10_isShown 62 = .ok (.goto 4, 3) := by decide +kernel
theorem dX10_isShown_65 : decode cX10_isShown 65 = .ok (.iconst (-1), 1) := by decide +kernel
theorem dX10_isShown_66 : decode cX10_isShown 66 = .ok (.iadd, 1) := by decide +kernel
theorem dX10_isShown_67 : decode cX10_isShown 67 = .ok (.istore_n 1, 1) := by decide +kernel
theorem dX10_isShown_68 : decode cX10_isShown 68 = .ok (.iload_n 3, 1) := by decide +kernel
theorem dX10_isShown_69 : decode cX10_isShown 69 = .ok (.istore_n 2, 1) := by decide +kernel
theorem dX10_isShown_70 : decode cX10_isShown 70 = .ok (.goto (-59), 3) := by decide +kernel
theorem dX10_isShown_73 : decode cX10_isShown 73 = .ok (.iload_n 2, 1) := by decide +kernel
theorem dX10_isShown_74 : decode cX10_isShown 74 = .ok (.iconst 1, 1) := by decide +kernel
theorem dX10_isShown_75 : decode cX10_isShown 75 = .ok (.if_icmp .ne 7, 3) := by decide +kernel
theorem dX10_isShown_78 : decode cX10_isShown 78 = .ok (.iconst 1, 1) := by decide +kernel
theorem dX10_isShown_79 : decode cX10_isShown 79 = .ok (.goto 4, 3) := by decide +kernel
theorem dX10_isShown_82 : decode cX10_isShown 82 = .ok (.iconst 0, 1) := by decide +kernel
theorem dX10_isShown_83 : decode cX10_isShown 83 = .ok (.ireturn, 1) := by decide +kernel
set_option maxRecDepth 20000 in
theorem ggX10_isBad_X10_in : GoodIn wsX10_isBad wsX10_in := goodIn_r _ [4] (by decide +kernel) (by decide +kernel)
set_option maxRecDepth 20000 in
theorem gX10_isBad_X10_in : GoodIn wsX10_isBad (va_wsS RX10 66 yX10_in wsX10_in) := goodIn_app (goodIn_of _ (by decide +kernel)) ggX10_isBad_X10_in
set_option maxRecDepth 20000 in
theorem ggX10_isBad_X10_places : GoodIn wsX10_isBad wsX10_places := goodIn_r _ [8, 9, 10, 11, 3, 12, 13, 14, 15, 16, 1, 2, 4, 17, 18, 19, 20, 21, 22, 23, 24, 25, 26, 27, 28, 29, 30, 31, 32, 33, 34, 35, 36, 37, 38, 39, 40, 41] (by decide +kernel) (by decide +kernel)
set_option maxRecDepth 20000 in
theorem gX10_isBad_X10_places : GoodIn wsX10_isBad (wsV RX10 166 RX10 yX10_places wsX10_places) := goodIn_app (goodIn_of _ (by decide +kernel)) ggX10_isBad_X10_places
theorem dX10_isBad_0 : decode cX10_isBad 0 = .ok (.iload_n 1, 1) := by decide +kernel
theorem dX10_isBad_1 : decode cX10_isBad 1 = .ok (.iconst 0, 1) := by decide +kernel
theorem dX10_isBad_2 : decode cX10_isBad 2 = .ok (.bipush 31, 2) := by decide +kernel
theorem dX10_isBad_4 : decode cX10_isBad 4 = .ok (.invokestatic 66, 3) := by decide +kernel
theorem dX10_isBad_7 : decode cX10_isBad 7 = .ok (.ifCond .eq 14, 3) := by decide +kernel
theorem dX10_isBad_10 : decode cX10_isBad 10 = .ok (.iload_n 1, 1) := by decide +kernel
theorem dX10_isBad_11 : decode cX10_isBad 11 = .ok (.aload_n 0, 1) := by decide +kernel
theorem dX10_isBad_12 : decode cX10_isBad 12 = .ok (.invokevirtual 166, 3) := by decide +kernel
theorem dX10_isBad_15 : decode cX10_isBad 15 = .ok (.iconst (-1), 1) := by decide +kernel
theorem dX10_isBad_16 : decode cX10_isBad 16 = .ok (.ixor, 1) := by decide +kernel
theorem dX10_isBad_17 : decode cX10_isBad 17 = .ok (.iand, 1) := by decide +kernel
theorem dX10_isBad_18 : decode cX10_isBad 18 = .ok (.ifCond .eq 7, 3) := by decide +kernel
theorem dX10_isBad_21 : decode cX10_isBad 21 = .ok (.iconst 1, 1) := by decide +kernel
theorem dX10_isBad_22 : decode cX10_isBad 22 = .ok (.goto 4, 3) := by decide +kernel
theorem dX10_isBad_25 : decode cX10_isBad 25 = .ok (.iconst 0, 1) := by decide +kernel
theorem dX10_isBad_26 : decode cX10_isBad 26 = .ok (.ireturn, 1) := by decide +kernel
set_option maxRecDepth 20000 in
theorem ggX10_sets_X10_clears_h : GoodIn wsX10_sets [Cond.code yX10_clears cX10_clears 1 none] := goodIn_r _ [7] (by decide +kernel) (by decide +kernel)
set_option maxRecDepth 20000 in
theorem ggX10_sets_X10_clears_0 : GoodIn wsX10_sets wsX10_clears_r1 := goodIn_r _ [8, 9, 10, 11, 6, 12, 13, 14, 15, 16, 17, 18, 19, 20, 21, 22, 23, 24, 25, 26, 27, 28, 29, 30] (by decide +kernel) (by decide +kernel)
set_option maxRecDepth 20000 in
theorem ggX10_sets_X10_clears_1 : GoodIn wsX10_sets wsX10_clears_r2 := goodIn_r _ [31, 32, 33, 34, 35, 36, 37, 38, 39, 40, 41, 42] (by decide +kernel) (by decide +kernel)
set_option maxRecDepth 20000 in
theorem ggX10_sets_X10_clears_2 : GoodIn wsX10_sets wsX100 := goodIn_r _ [65, 66, 67, 68, 69, 70, 71, 72, 73, 74, 75, 76, 77, 78, 79, 80, 81, 82, 83, 84, 85, 86, 87, 88, 89] (by decide +kernel) (by decide +kernel)
theorem ggX10_sets_X10_clears : GoodIn wsX10_sets wsX10_clears := goodIn_app ggX10_sets_X10_clears_h (goodIn_app (goodIn_app ggX10_sets_X10_clears_0 ggX10_sets_X10_clears_1) ggX10_sets_X10_clears_2)
set_option maxRecDepth 20000 in
theorem gX10_sets_X10_clears : GoodIn wsX10_sets (wsV RX10 252 RX10 yX10_clears wsX10_clears) := goodIn_app (goodIn_of _ (by decide +kernel)) ggX10_sets_X10_clears
set_option maxRecDepth 20000 in
theorem ggX10_sets_X10_partOf_h : GoodIn wsX10_sets [Cond.code yX10_partOf cX10_partOf 8 (some .int)] := goodIn_r _ [46] (by decide +kernel) (by decide +kernel)
set_option maxRecDepth 20000 in
theorem ggX10_sets_X10_partOf_0 : GoodIn wsX10_sets wsX10_partOf_r1 := goodIn_r _ [47, 48, 9, 10, 11, 6, 12, 8, 13, 14, 15, 16, 17, 18, 19, 20, 21, 22, 23, 24, 25, 26, 27, 28] (by decide +kernel) (by decide +kernel)
set_option maxRecDepth 20000 in
theorem ggX10_sets_X10_partOf_1 : GoodIn wsX10_sets wsX10_partOf_r2 := goodIn_r _ [29, 30, 31, 32, 33, 34, 35, 36, 37, 38, 39, 40, 41, 42, 49, 50, 51, 52, 53, 54, 55, 56, 57, 58] (by decide +kernel) (by decide +kernel)
set_option maxRecDepth 20000 in
theorem ggX10_sets_X10_partOf_2 : GoodIn wsX10_sets wsX10_partOf_r3 := goodIn_r _ [59, 60] (by decide +kernel) (by decide +kernel)
set_option maxRecDepth 20000 in
theorem ggX10_sets_X10_partOf_3 : GoodIn wsX10_sets wsX100 := goodIn_r _ [65, 66, 67, 68, 69, 70, 71, 72, 73, 74, 75, 76, 77, 78, 79, 80, 81, 82, 83, 84, 85, 86, 87, 88, 89] (by decide +kernel) (by decide +kernel)
theorem ggX10_sets_X10_partOf : GoodIn wsX10_sets wsX10_partOf := goodIn_app ggX10_sets_X10_partOf_h (goodIn_app (goodIn_app ggX10_sets_X10_partOf_0 (goodIn_app ggX10_sets_X10_partOf_1 ggX10_sets_X10_partOf_2)) ggX10_sets_X10_partOf_3)
set_option maxRecDepth 20000 in
theorem gX10_sets_X10_partOf : GoodIn wsX10_sets (wsV RX10 255 RX10 yX10_partOf wsX10_partOf) := goodIn_app (goodIn_of _ (by decide +kernel)) ggX10_sets_X10_partOf
set_option maxRecDepth 20000 in
theorem ggX10_sets_X10_gets : GoodIn wsX10_sets wsX10_gets := goodIn_r _ [64, 1, 65, 66, 67, 68, 69, 70, 71, 72, 73, 74, 75, 76, 77, 78, 79, 80, 81, 82, 83, 84, 85, 86, 87, 88, 89] (by decide +kernel) (by decide +kernel)
set_option maxRecDepth 20000 in
theorem gX10_sets_X10_gets : GoodIn wsX10_sets (wsV RX10 225 RX10 yX10_gets wsX10_gets) := goodIn_app (goodIn_of _ (by decide +kernel)) ggX10_sets_X10_gets
theorem dX10_sets_0 : decode cX10_sets 0 = .ok (.aload_n 0, 1) := by decide +kernel
theorem dX10_sets_1 : decode cX10_sets 1 = .ok (.invokevirtual 252, 3) := by decide +kernel
theorem dX10_sets_4 : decode cX10_sets 4 = .ok (.iconst 0, 1) := by decide +kernel
theorem dX10_sets_5 : decode cX10_sets 5 = .ok (.istore_n 3, 1) := by decide +kernel
theorem dX10_sets_6 : decode cX10_sets 6 = .ok (.iload_n 3, 1) := by decide +kernel
theorem dX10_sets_7 : decode cX10_sets 7 = .ok (.bipush 32, 2) := by decide +kernel
theorem dX10_sets_9 : decode cX10_sets 9 = .ok (.if_icmp .ge 16, 3) := by decide +kernel
theorem dX10_sets_12 : decode cX10_sets 12 = .ok (.aload_n 0, 1) := by decide +kernel
theorem dX10_sets_13 : decode cX10_sets 13 = .ok (.getfield 51, 3) := by decide +kernel
theorem dX10_sets_16 : decode cX10_sets 16 = .ok (.iload_n 3, 1) := by decide +kernel
theorem dX10_sets_17 : decode cX10_sets 17 = .ok (.iconst 0, 1) := by decide +kernel
theorem dX10_sets_18 : decode cX10_sets 18 = .ok (.iastore, 1) := by decide +kernel
theorem dX10_sets_19 : decode cX10_sets 19 = .ok (.iinc 3 1, 3) := by decide +kernel
theorem dX10_sets_22 : decode cX10_sets 22 = .ok (.goto (-16), 3) := by decide +kernel
theorem dX10_sets_25 : decode cX10_sets 25 = .ok (.iconst 0, 1) := by decide +kernel
theorem dX10_sets_26 : decode cX10_sets 26 = .ok (.istore_n 3, 1) := by decide +kernel
theorem dX10_sets_27 : decode cX10_sets 27 = .ok (.iload_n 3, 1) := by decide +kernel
theorem dX10_sets_28 : decode cX10_sets 28 = .ok (.iconst 5, 1) := by decide +kernel
theorem dX10_sets_29 : decode cX10_sets 29 = .ok (.if_icmp .ge 28, 3) := by decide +kernel
theorem dX10_sets_32 : decode cX10_sets 32 = .ok (.iload_n 1, 1) := by decide +kernel
theorem dX10_sets_33 : decode cX10_sets 33 = .ok (.iload_n 3, 1) := by decide +kernel
theorem dX10_sets_34 : decode cX10_sets 34 = .ok (.ishr, 1) := by decide +kernel
theorem dX10_sets_35 : decode cX10_sets 35 = .ok (.iconst 1, 1) := by decide +kernel
theorem dX10_sets_36 : decode cX10_sets 36 = .ok (.iand, 1) := by decide +kernel
theorem dX10_sets_37 : decode cX10_sets 37 = .ok (.iconst 1, 1) := by decide +kernel
theorem dX10_sets_38 : decode cX10_sets 38 = .ok (.if_icmp .ne 13, 3) := by decide +kernel
theorem dX10_sets_41 : decode cX10_sets 41 = .ok (.aload_n 0, 1) := by decide +kernel
theorem dX10_sets_42 : decode cX10_sets 42 = .ok (.iconst 0, 1) := by decide +kernel
theorem dX10_sets_43 : decode cX10_sets 43 = .ok (.aload_n 0, 1) := by decide +kernel
theorem dX10_sets_44 : decode cX10_sets 44 = .ok (.iload_n 3, 1) := by decide +kernel
theorem dX10_sets_45 : decode cX10_sets 45 = .ok (.invokevirtual 255, 3) := by decide +kernel
theorem dX10_sets_48 : decode cX10_sets 48 = .ok (.invokevirtual 225, 3) := by decide +kernel
theorem dX10_sets_51 : decode cX10_sets 51 = .ok (.iinc 3 1, 3) := by decide +kernel
theorem dX10_sets_54 : decode cX10_sets 54 = .ok (.goto (-27), 3) := by decide +kernel
theorem dX10_sets_57 : decode cX10_sets 57 = .ok (.aload_n 0, 1) := by decide +kernel
theorem dX10_sets_58 : decode cX10_sets 58 = .ok (.getfield 54, 3) := by decide +kernel
theorem dX10_sets_61 : decode cX10_sets 61 = .ok (.iconst 0, 1) := by decide +kernel
theorem dX10_sets_62 : decode cX10_sets 62 = .ok (.aload_n 0, 1) := by decide +kernel
theorem dX10_sets_63 : decode cX10_sets 63 = .ok (.iload_n 2, 1) := by decide +kernel
theorem dX10_sets_64 : decode cX10_sets 64 = .ok (.invokevirtual 255, 3) := by decide +kernel
theorem dX10_sets_67 : decode cX10_sets 67 = .ok (.iastore, 1) := by decide +kernel
theorem dX10_sets_68 : decode cX10_sets 68 = .ok (.return_, 1) := by decide +kernel
set_option maxRecDepth 20000 in
theorem ggX10_isFollowing_X10_sets_h : GoodIn wsX10_isFollowing [Cond.code yX10_sets cX10_sets 4 none] := goodIn_r _ [5] (by decide +kernel) (by decide +kernel)
set_option maxRecDepth 20000 in
theorem ggX10_isFollowing_X10_sets_0 : GoodIn wsX10_isFollowing wsX10_sets_r1 := goodIn_r _ [6, 7, 8, 9, 10, 4, 11, 12, 13, 14, 15, 16, 17, 18, 19, 20, 21, 22, 23, 24, 25, 26, 27, 28] (by decide +kernel) (by decide +kernel)
set_option maxRecDepth 20000 in
theorem ggX10_isFollowing_X10_sets_1 : GoodIn wsX10_isFollowing wsX10_sets_r2 := goodIn_r _ [29, 30, 31, 32, 33, 34, 35, 36, 37, 38, 39, 40, 41, 42, 43, 44, 45, 46, 47, 48, 49, 50, 51, 52] (by decide +kernel) (by decide +kernel)
set_option maxRecDepth 20000 in
theorem ggX10_isFollowing_X10_sets_2 : GoodIn wsX10_isFollowing wsX10_sets_r3 := goodIn_r _ [53, 54, 55, 56, 57, 58, 59, 60, 61, 62, 63, 64, 65, 66, 67, 68] (by decide +kernel) (by decide +kernel)
set_option maxRecDepth 20000 in
theorem ggX10_isFollowing_X10_sets_3 : GoodIn wsX10_isFollowing wsX100 := goodIn_r _ [119, 120, 121, 122, 123, 124, 125, 126, 127, 128, 129, 130, 131, 132, 133, 134, 135, 136, 137, 138, 139, 140, 141, 142, 143] (by decide +kernel) (by decide +kernel)
theorem ggX10_isFollowing_X10_sets : GoodIn wsX10_isFollowing wsX10_sets := goodIn_app ggX10_isFollowing_X10_sets_h (goodIn_app (goodIn_app ggX10_isFollowing_X10_sets_0 (goodIn_app ggX10_isFollowing_X10_sets_1 ggX10_isFollowing_X10_sets_2)) ggX10_isFollowing_X10_sets_3)
set_option maxRecDepth 20000 in
theorem gX10_isFollowing_X10_sets : GoodIn wsX10_isFollowing (wsV RX10 258 RX10 yX10_sets wsX10_sets) := goodIn_app (goodIn_of _ (by decide +kernel)) ggX10_isFollowing_X10_sets
set_option maxRecDepth 20000 in
theorem ggX10_isFollowing_X10_isShown_h : GoodIn wsX10_isFollowing [Cond.code yX10_isShown cX10_isShown 4 (some .boolean)] := goodIn_r _ [72] (by decide +kernel) (by decide +kernel)
set_option maxRecDepth 20000 in
theorem ggX10_isFollowing_X10_isShown_0 : GoodIn wsX10_isFollowing wsX10_isShown_r1 := goodIn_r _ [73, 74, 75, 76, 4, 77, 7, 19, 78, 79, 80, 81, 82, 18, 83, 84, 85, 86, 6, 87, 88, 89, 90, 12] (by decide +kernel) (by decide +kernel)
set_option maxRecDepth 20000 in
theorem ggX10_isFollowing_X10_isShown_1 : GoodIn wsX10_isFollowing wsX10_isShown_r2 := goodIn_r _ [17, 91, 92, 93, 94, 95, 96, 97, 98, 65, 66, 67, 68, 53, 54, 55, 56, 13, 14, 15, 16, 20, 21, 22] (by decide +kernel) (by decide +kernel)
set_option maxRecDepth 20000 in
theorem ggX10_isFollowing_X10_isShown_2 : GoodIn wsX10_isFollowing wsX10_isShown_r3 := goodIn_r _ [23, 24, 25, 26, 27, 28, 29, 30, 31, 32, 33, 34, 35, 36, 37, 38, 39, 40, 41, 42, 43, 44, 45, 46] (by decide +kernel) (by decide +kernel)
set_option maxRecDepth 20000 in
theorem ggX10_isFollowing_X10_isShown_3 : GoodIn wsX10_isFollowing wsX10_isShown_r4 := goodIn_r _ [99, 100, 101, 102, 103, 104, 105, 106, 107, 108, 109, 110, 111, 112, 113, 114, 115, 116, 117, 118] (by decide +kernel) (by decide +kernel)
set_option maxRecDepth 20000 in
theorem ggX10_isFollowing_X10_isShown_4 : GoodIn wsX10_isFollowing wsX100 := goodIn_r _ [119, 120, 121, 122, 123, 124, 125, 126, 127, 128, 129, 130, 131, 132, 133, 134, 135, 136, 137, 138, 139, 140, 141, 142, 143] (by decide +kernel) (by decide +kernel)
theorem ggX10_isFollowing_X10_isShown : GoodIn wsX10_isFollowing wsX10_isShown := goodIn_app ggX10_isFollowing_X10_isShown_h (goodIn_app (goodIn_app ggX10_isFollowing_X10_isShown_0 (goodIn_app ggX10_isFollowing_X10_isShown_1 (goodIn_app ggX10_isFollowing_X10_isShown_2 ggX10_isFollowing_X10_isShown_3))) ggX10_isFollowing_X10_isShown_4)
set_option maxRecDepth 20000 in
theorem gX10_isFollowing_X10_isShown : GoodIn wsX10_isFollowing (wsV RX10 261 RX10 yX10_isShown wsX10_isShown) := goodIn_app (goodIn_of _ (by decide +kernel)) ggX10_isFollowing_X10_isShown
theorem dX10_isFollowing_0 : decode cX10_isFollowing 0 = .ok (.aload_n 0, 1) := by decide +kernel
theorem dX10_isFollowing_1 : decode cX10_isFollowing 1 = .ok (.iload_n 1, 1) := by decide +kernel
theorem dX10_isFollowing_2 : decode cX10_isFollowing 2 = .ok (.iload_n 2, 1) := by decide +kernel
theorem dX10_isFollowing_3 : decode cX10_isFollowing 3 = .ok (.invokevirtual 258, 3) := by decide +kernel
theorem dX10_isFollowing_6 : decode cX10_isFollowing 6 = .ok (.aload_n 0, 1) := by decide +kernel
theorem dX10_isFollowing_7 : decode cX10_isFollowing 7 = .ok (.invokevirtual 261, 3) := by decide +kernel
theorem dX10_isFollowing_10 : decode cX10_isFollowing 10 = .ok (.ireturn, 1) := by decide +kernel
set_option maxRecDepth 20000 in
theorem ggX10_isKept_X10_wordsOf : GoodIn wsX10_isKept wsX10_wordsOf := goodIn_r _ [7] (by decide +kernel) (by decide +kernel)
set_option maxRecDepth 20000 in
theorem gX10_isKept_X10_wordsOf : GoodIn wsX10_isKept (va_wsS RX10 185 yX10_wordsOf wsX10_wordsOf) := goodIn_app (goodIn_of _ (by decide +kernel)) ggX10_isKept_X10_wordsOf
set_option maxRecDepth 20000 in
theorem ggX10_isKept_X10_begin : GoodIn wsX10_isKept wsX10_begin := goodIn_r _ [10] (by decide +kernel) (by decide +kernel)
set_option maxRecDepth 20000 in
theorem gX10_isKept_X10_begin : GoodIn wsX10_isKept (va_wsS RX10 188 yX10_begin wsX10_begin) := goodIn_app (goodIn_of _ (by decide +kernel)) ggX10_isKept_X10_begin
set_option maxRecDepth 20000 in
theorem ggX10_isKept_X10_models : GoodIn wsX10_isKept wsX10_models := goodIn_r _ [13] (by decide +kernel) (by decide +kernel)
set_option maxRecDepth 20000 in
theorem gX10_isKept_X10_models : GoodIn wsX10_isKept (va_wsS RX10 198 yX10_models wsX10_models) := goodIn_app (goodIn_of _ (by decide +kernel)) ggX10_isKept_X10_models
set_option maxRecDepth 20000 in
theorem ggX10_isKept_X10_wordEnd : GoodIn wsX10_isKept wsX10_wordEnd := goodIn_r _ [16] (by decide +kernel) (by decide +kernel)
set_option maxRecDepth 20000 in
theorem gX10_isKept_X10_wordEnd : GoodIn wsX10_isKept (va_wsS RX10 215 yX10_wordEnd wsX10_wordEnd) := goodIn_app (goodIn_of _ (by decide +kernel)) ggX10_isKept_X10_wordEnd
set_option maxRecDepth 20000 in
theorem ggX10_isKept_X10_has : GoodIn wsX10_isKept wsX10_has := goodIn_r _ [20, 21, 22, 23, 24, 25, 26, 27, 28, 29, 30, 31, 32, 33, 34, 35, 36, 37, 38, 39, 40, 41, 42, 43, 44, 45, 46] (by decide +kernel) (by decide +kernel)
set_option maxRecDepth 20000 in
theorem gX10_isKept_X10_has : GoodIn wsX10_isKept (wsV RX10 218 RX10 yX10_has wsX10_has) := goodIn_app (goodIn_of _ (by decide +kernel)) ggX10_isKept_X10_has
theorem dX10_isKept_0 : decode cX10_isKept 0 = .ok (.iload_n 1, 1) := by decide +kernel
theorem dX10_isKept_1 : decode cX10_isKept 1 = .ok (.invokestatic 185, 3) := by decide +kernel
theorem dX10_isKept_4 : decode cX10_isKept 4 = .ok (.iload_n 1, 1) := by decide +kernel
theorem dX10_isKept_5 : decode cX10_isKept 5 = .ok (.iconst 3, 1) := by decide +kernel
theorem dX10_isKept_6 : decode cX10_isKept 6 = .ok (.if_icmp .ge 9, 3) := by decide +kernel
theorem dX10_isKept_9 : decode cX10_isKept 9 = .ok (.iload_n 1, 1) := by decide +kernel
theorem dX10_isKept_10 : decode cX10_isKept 10 = .ok (.iconst 1, 1) := by decide +kernel
theorem dX10_isKept_11 : decode cX10_isKept 11 = .ok (.iadd, 1) := by decide +kernel
theorem dX10_isKept_12 : decode cX10_isKept 12 = .ok (.goto 4, 3) := by decide +kernel
theorem dX10_isKept_15 : decode cX10_isKept 15 = .ok (.iconst 3, 1) := by decide +kernel
theorem dX10_isKept_16 : decode cX10_isKept 16 = .ok (.imul, 1) := by decide +kernel
theorem dX10_isKept_17 : decode cX10_isKept 17 = .ok (.istore_n 2, 1) := by decide +kernel
theorem dX10_isKept_18 : decode cX10_isKept 18 = .ok (.iconst 0, 1) := by decide +kernel
theorem dX10_isKept_19 : decode cX10_isKept 19 = .ok (.istore_n 3, 1) := by decide +kernel
theorem dX10_isKept_20 : decode cX10_isKept 20 = .ok (.iload_n 3, 1) := by decide +kernel
theorem dX10_isKept_21 : decode cX10_isKept 21 = .ok (.iload_n 2, 1) := by decide +kernel
theorem dX10_isKept_22 : decode cX10_isKept 22 = .ok (.if_icmp .ge 108, 3) := by decide +kernel
theorem dX10_isKept_25 : decode cX10_isKept 25 = .ok (.iload_n 1, 1) := by decide +kernel
theorem dX10_isKept_26 : decode cX10_isKept 26 = .ok (.invokestatic 188, 3) := by decide +kernel
theorem dX10_isKept_29 : decode cX10_isKept 29 = .ok (.iload_n 3, 1) := by decide +kernel
theorem dX10_isKept_30 : decode cX10_isKept 30 = .ok (.iadd, 1) := by decide +kernel
theorem dX10_isKept_31 : decode cX10_isKept 31 = .ok (.istore 4, 2) := by decide +kernel
theorem dX10_isKept_33 : decode cX10_isKept 33 = .ok (.iload_n 3, 1) := by decide +kernel
theorem dX10_isKept_34 : decode cX10_isKept 34 = .ok (.iload_n 1, 1) := by decide +kernel
theorem dX10_isKept_35 : decode cX10_isKept 35 = .ok (.invokestatic 185, 3) := by decide +kernel
theorem dX10_isKept_38 : decode cX10_isKept 38 = .ok (.iload_n 1, 1) := by decide +kernel
theorem dX10_isKept_39 : decode cX10_isKept 39 = .ok (.invokestatic 198, 3) := by decide +kernel
theorem dX10_isKept_42 : decode cX10_isKept 42 = .ok (.invokestatic 215, 3) := by decide +kernel
theorem dX10_isKept_45 : decode cX10_isKept 45 = .ok (.istore 5, 2) := by decide +kernel
theorem dX10_isKept_47 : decode cX10_isKept 47 = .ok (.iconst 0, 1) := by decide +kernel
theorem dX10_isKept_48 : decode cX10_isKept 48 = .ok (.istore 6, 2) := by decide +kernel
theorem dX10_isKept_50 : decode cX10_isKept 50 = .ok (.iload 6, 2) := by decide +kernel
theorem dX10_isKept_52 : decode cX10_isKept 52 = .ok (.aload_n 0, 1) := by decide +kernel
theorem dX10_isKept_53 : decode cX10_isKept 53 = .ok (.getfield 172, 3) := by decide +kernel
theorem dX10_isKept_56 : decode cX10_isKept 56 = .ok (.if_icmp .ge 41, 3) := by decide +kernel
theorem dX10_isKept_59 : decode cX10_isKept 59 = .ok (.iload 5, 2) := by decide +kernel
theorem dX10_isKept_61 : decode cX10_isKept 61 = .ok (.aload_n 0, 1) := by decide +kernel
theorem dX10_isKept_62 : decode cX10_isKept 62 = .ok (.iconst 0, 1) := by decide +kernel
theorem dX10_isKept_63 : decode cX10_isKept 63 = .ok (.iload 6, 2) := by decide +kernel
theorem dX10_isKept_65 : decode cX10_isKept 65 = .ok (.invokevirtual 218, 3) := by decide +kernel
theorem dX10_isKept_68 : decode cX10_isKept 68 = .ok (.ifCond .eq 19, 3) := by decide +kernel
theorem dX10_isKept_71 : decode cX10_isKept 71 = .ok (.aload_n 0, 1) := by decide +kernel
theorem dX10_isKept_72 : decode cX10_isKept 72 = .ok (.getfield 48, 3) := by decide +kernel
theorem dX10_isKept_75 : decode cX10_isKept 75 = .ok (.bipush 91, 2) := by decide +kernel
theorem dX10_isKept_77 : decode cX10_isKept 77 = .ok (.iload 6, 2) := by decide +kernel
