theorem dX10_init_0 : decode cX10_init 0 = .ok (.aload_n 0, 1) := by decide +kernel
theorem dX10_init_1 : decode cX10_init 1 = .ok (.invokespecial 1, 3) := by decide +kernel
theorem dX10_init_4 : decode cX10_init 4 = .ok (.aload_n 0, 1) := by decide +kernel
theorem dX10_init_5 : decode cX10_init 5 = .ok (.sipush 172, 3) := by decide +kernel
theorem dX10_init_8 : decode cX10_init 8 = .ok (.newarray .int, 2) := by decide +kernel
theorem dX10_init_10 : decode cX10_init 10 = .ok (.putfield 7, 3) := by decide +kernel
theorem dX10_init_13 : decode cX10_init 13 = .ok (.aload_n 0, 1) := by decide +kernel
theorem dX10_init_14 : decode cX10_init 14 = .ok (.sipush 688, 3) := by decide +kernel
theorem dX10_init_17 : decode cX10_init 17 = .ok (.newarray .int, 2) := by decide +kernel
theorem dX10_init_19 : decode cX10_init 19 = .ok (.putfield 13, 3) := by decide +kernel
theorem dX10_init_22 : decode cX10_init 22 = .ok (.aload_n 0, 1) := by decide +kernel
theorem dX10_init_23 : decode cX10_init 23 = .ok (.sipush 172, 3) := by decide +kernel
theorem dX10_init_26 : decode cX10_init 26 = .ok (.newarray .int, 2) := by decide +kernel
theorem dX10_init_28 : decode cX10_init 28 = .ok (.putfield 16, 3) := by decide +kernel
theorem dX10_init_31 : decode cX10_init 31 = .ok (.aload_n 0, 1) := by decide +kernel
theorem dX10_init_32 : decode cX10_init 32 = .ok (.bipush 8, 2) := by decide +kernel
theorem dX10_init_34 : decode cX10_init 34 = .ok (.newarray .int, 2) := by decide +kernel
theorem dX10_init_36 : decode cX10_init 36 = .ok (.putfield 19, 3) := by decide +kernel
theorem dX10_init_39 : decode cX10_init 39 = .ok (.aload_n 0, 1) := by decide +kernel
theorem dX10_init_40 : decode cX10_init 40 = .ok (.bipush 8, 2) := by decide +kernel
theorem dX10_init_42 : decode cX10_init 42 = .ok (.newarray .int, 2) := by decide +kernel
theorem dX10_init_44 : decode cX10_init 44 = .ok (.putfield 22, 3) := by decide +kernel
theorem dX10_init_47 : decode cX10_init 47 = .ok (.aload_n 0, 1) := by decide +kernel
theorem dX10_init_48 : decode cX10_init 48 = .ok (.bipush 30, 2) := by decide +kernel
theorem dX10_init_50 : decode cX10_init 50 = .ok (.newarray .char, 2) := by decide +kernel
theorem dX10_init_52 : decode cX10_init 52 = .ok (.putfield 25, 3) := by decide +kernel
theorem dX10_init_55 : decode cX10_init 55 = .ok (.aload_n 0, 1) := by decide +kernel
theorem dX10_init_56 : decode cX10_init 56 = .ok (.bipush 31, 2) := by decide +kernel
theorem dX10_init_58 : decode cX10_init 58 = .ok (.newarray .int, 2) := by decide +kernel
theorem dX10_init_60 : decode cX10_init 60 = .ok (.putfield 29, 3) := by decide +kernel
theorem dX10_init_63 : decode cX10_init 63 = .ok (.aload_n 0, 1) := by decide +kernel
theorem dX10_init_64 : decode cX10_init 64 = .ok (.bipush 31, 2) := by decide +kernel
theorem dX10_init_66 : decode cX10_init 66 = .ok (.newarray .int, 2) := by decide +kernel
theorem dX10_init_68 : decode cX10_init 68 = .ok (.putfield 32, 3) := by decide +kernel
theorem dX10_init_71 : decode cX10_init 71 = .ok (.aload_n 0, 1) := by decide +kernel
theorem dX10_init_72 : decode cX10_init 72 = .ok (.bipush 32, 2) := by decide +kernel
theorem dX10_init_74 : decode cX10_init 74 = .ok (.newarray .int, 2) := by decide +kernel
theorem dX10_init_76 : decode cX10_init 76 = .ok (.putfield 35, 3) := by decide +kernel
theorem dX10_init_79 : decode cX10_init 79 = .ok (.aload_n 0, 1) := by decide +kernel
theorem dX10_init_80 : decode cX10_init 80 = .ok (.sipush 1000, 3) := by decide +kernel
theorem dX10_init_83 : decode cX10_init 83 = .ok (.newarray .int, 2) := by decide +kernel
theorem dX10_init_85 : decode cX10_init 85 = .ok (.putfield 38, 3) := by decide +kernel
theorem dX10_init_88 : decode cX10_init 88 = .ok (.aload_n 0, 1) := by decide +kernel
theorem dX10_init_89 : decode cX10_init 89 = .ok (.sipush 1000, 3) := by decide +kernel
theorem dX10_init_92 : decode cX10_init 92 = .ok (.newarray .int, 2) := by decide +kernel
theorem dX10_init_94 : decode cX10_init 94 = .ok (.putfield 41, 3) := by decide +kernel
theorem dX10_init_97 : decode cX10_init 97 = .ok (.aload_n 0, 1) := by decide +kernel
theorem dX10_init_98 : decode cX10_init 98 = .ok (.sipush 1000, 3) := by decide +kernel
theorem dX10_init_101 : decode cX10_init 101 = .ok (.newarray .int, 2) := by decide +kernel
theorem dX10_init_103 : decode cX10_init 103 = .ok (.putfield 44, 3) := by decide +kernel
theorem dX10_init_106 : decode cX10_init 106 = .ok (.aload_n 0, 1) := by decide +kernel
theorem dX10_init_107 : decode cX10_init 107 = .ok (.ldc 47, 2) := by decide +kernel
theorem dX10_init_109 : decode cX10_init 109 = .ok (.newarray .int, 2) := by decide +kernel
theorem dX10_init_111 : decode cX10_init 111 = .ok (.putfield 48, 3) := by decide +kernel
theorem dX10_init_114 : decode cX10_init 114 = .ok (.aload_n 0, 1) := by decide +kernel
theorem dX10_init_115 : decode cX10_init 115 = .ok (.sipush 19200, 3) := by decide +kernel
theorem dX10_init_118 : decode cX10_init 118 = .ok (.newarray .int, 2) := by decide +kernel
theorem dX10_init_120 : decode cX10_init 120 = .ok (.putfield 51, 3) := by decide +kernel
theorem dX10_init_123 : decode cX10_init 123 = .ok (.aload_n 0, 1) := by decide +kernel
theorem dX10_init_124 : decode cX10_init 124 = .ok (.sipush 600, 3) := by decide +kernel
theorem dX10_init_127 : decode cX10_init 127 = .ok (.newarray .int, 2) := by decide +kernel
theorem dX10_init_129 : decode cX10_init 129 = .ok (.putfield 54, 3) := by decide +kernel
theorem dX10_init_132 : decode cX10_init 132 = .ok (.aload_n 0, 1) := by decide +kernel
theorem dX10_init_133 : decode cX10_init 133 = .ok (.sipush 600, 3) := by decide +kernel
theorem dX10_init_136 : decode cX10_init 136 = .ok (.newarray .int, 2) := by decide +kernel
theorem dX10_init_138 : decode cX10_init 138 = .ok (.putfield 57, 3) := by decide +kernel
theorem dX10_init_141 : decode cX10_init 141 = .ok (.aload_n 0, 1) := by decide +kernel
theorem dX10_init_142 : decode cX10_init 142 = .ok (.sipush 600, 3) := by decide +kernel
theorem dX10_init_145 : decode cX10_init 145 = .ok (.newarray .int, 2) := by decide +kernel
theorem dX10_init_147 : decode cX10_init 147 = .ok (.putfield 60, 3) := by decide +kernel
theorem dX10_init_150 : decode cX10_init 150 = .ok (.aload_n 0, 1) := by decide +kernel
theorem dX10_init_151 : decode cX10_init 151 = .ok (.bipush 31, 2) := by decide +kernel
theorem dX10_init_153 : decode cX10_init 153 = .ok (.newarray .int, 2) := by decide +kernel
theorem dX10_init_155 : decode cX10_init 155 = .ok (.putfield 63, 3) := by decide +kernel
theorem dX10_init_158 : decode cX10_init 158 = .ok (.aload_n 0, 1) := by decide +kernel
theorem dX10_init_159 : decode cX10_init 159 = .ok (.getfield 7, 3) := by decide +kernel
theorem dX10_init_162 : decode cX10_init 162 = .ok (.iconst 0, 1) := by decide +kernel
theorem dX10_init_163 : decode cX10_init 163 = .ok (.iconst 1, 1) := by decide +kernel
theorem dX10_init_164 : decode cX10_init 164 = .ok (.iastore, 1) := by decide +kernel
theorem dX10_init_165 : decode cX10_init 165 = .ok (.aload_n 0, 1) := by decide +kernel
theorem dX10_init_166 : decode cX10_init 166 = .ok (.getfield 7, 3) := by decide +kernel
theorem dX10_init_169 : decode cX10_init 169 = .ok (.bipush 16, 2) := by decide +kernel
theorem dX10_init_171 : decode cX10_init 171 = .ok (.iconst 1, 1) := by decide +kernel
theorem dX10_init_172 : decode cX10_init 172 = .ok (.iastore, 1) := by decide +kernel
theorem dX10_init_173 : decode cX10_init 173 = .ok (.return_, 1) := by decide +kernel
theorem dX10_in_0 : decode cX10_in 0 = .ok (.iload_n 0, 1) := by decide +kernel
theorem dX10_in_1 : decode cX10_in 1 = .ok (.iload_n 1, 1) := by decide +kernel
theorem dX10_in_2 : decode cX10_in 2 = .ok (.if_icmp .lt 12, 3) := by decide +kernel
theorem dX10_in_5 : decode cX10_in 5 = .ok (.iload_n 0, 1) := by decide +kernel
theorem dX10_in_6 : decode cX10_in 6 = .ok (.iload_n 2, 1) := by decide +kernel
theorem dX10_in_7 : decode cX10_in 7 = .ok (.if_icmp .gt 7, 3) := by decide +kernel
theorem dX10_in_10 : decode cX10_in 10 = .ok (.iconst 1, 1) := by decide +kernel
theorem dX10_in_11 : decode cX10_in 11 = .ok (.goto 4, 3) := by decide +kernel
theorem dX10_in_14 : decode cX10_in 14 = .ok (.iconst 0, 1) := by decide +kernel
theorem dX10_in_15 : decode cX10_in 15 = .ok (.ireturn, 1) := by decide +kernel
set_option maxRecDepth 20000 in
theorem ggX10_noStage_X10_in : GoodIn wsX10_noStage wsX10_in := goodIn_r _ [5] (by decide +kernel) (by decide +kernel)
set_option maxRecDepth 20000 in
theorem gX10_noStage_X10_in : GoodIn wsX10_noStage (va_wsS RX10 66 yX10_in wsX10_in) := goodIn_app (goodIn_of _ (by decide +kernel)) ggX10_noStage_X10_in
theorem dX10_noStage_0 : decode cX10_noStage 0 = .ok (.iload_n 1, 1) := by decide +kernel
theorem dX10_noStage_1 : decode cX10_noStage 1 = .ok (.iconst 0, 1) := by decide +kernel
theorem dX10_noStage_2 : decode cX10_noStage 2 = .ok (.aload_n 0, 1) := by decide +kernel
theorem dX10_noStage_3 : decode cX10_noStage 3 = .ok (.getfield 7, 3) := by decide +kernel
theorem dX10_noStage_6 : decode cX10_noStage 6 = .ok (.bipush 16, 2) := by decide +kernel
theorem dX10_noStage_8 : decode cX10_noStage 8 = .ok (.iaload, 1) := by decide +kernel
theorem dX10_noStage_9 : decode cX10_noStage 9 = .ok (.iconst 1, 1) := by decide +kernel
theorem dX10_noStage_10 : decode cX10_noStage 10 = .ok (.isub, 1) := by decide +kernel
theorem dX10_noStage_11 : decode cX10_noStage 11 = .ok (.invokestatic 66, 3) := by decide +kernel
theorem dX10_noStage_14 : decode cX10_noStage 14 = .ok (.ifCond .ne 7, 3) := by decide +kernel
theorem dX10_noStage_17 : decode cX10_noStage 17 = .ok (.iconst 1, 1) := by decide +kernel
theorem dX10_noStage_18 : decode cX10_noStage 18 = .ok (.goto 4, 3) := by decide +kernel
theorem dX10_noStage_21 : decode cX10_noStage 21 = .ok (.iconst 0, 1) := by decide +kernel
theorem dX10_noStage_22 : decode cX10_noStage 22 = .ok (.ireturn, 1) := by decide +kernel
theorem dX10_leadsTo_0 : decode cX10_leadsTo 0 = .ok (.aload_n 0, 1) := by decide +kernel
theorem dX10_leadsTo_1 : decode cX10_leadsTo 1 = .ok (.getfield 7, 3) := by decide +kernel
theorem dX10_leadsTo_4 : decode cX10_leadsTo 4 = .ok (.iconst 0, 1) := by decide +kernel
theorem dX10_leadsTo_5 : decode cX10_leadsTo 5 = .ok (.iload_n 1, 1) := by decide +kernel
theorem dX10_leadsTo_6 : decode cX10_leadsTo 6 = .ok (.iadd, 1) := by decide +kernel
theorem dX10_leadsTo_7 : decode cX10_leadsTo 7 = .ok (.iaload, 1) := by decide +kernel
theorem dX10_leadsTo_8 : decode cX10_leadsTo 8 = .ok (.iload_n 2, 1) := by decide +kernel
theorem dX10_leadsTo_9 : decode cX10_leadsTo 9 = .ok (.ishr, 1) := by decide +kernel
theorem dX10_leadsTo_10 : decode cX10_leadsTo 10 = .ok (.iconst 1, 1) := by decide +kernel
theorem dX10_leadsTo_11 : decode cX10_leadsTo 11 = .ok (.iand, 1) := by decide +kernel
theorem dX10_leadsTo_12 : decode cX10_leadsTo 12 = .ok (.iconst 1, 1) := by decide +kernel
theorem dX10_leadsTo_13 : decode cX10_leadsTo 13 = .ok (.if_icmp .ne 7, 3) := by decide +kernel
theorem dX10_leadsTo_16 : decode cX10_leadsTo 16 = .ok (.iconst 1, 1) := by decide +kernel
theorem dX10_leadsTo_17 : decode cX10_leadsTo 17 = .ok (.goto 4, 3) := by decide +kernel
theorem dX10_leadsTo_20 : decode cX10_leadsTo 20 = .ok (.iconst 0, 1) := by decide +kernel
theorem dX10_leadsTo_21 : decode cX10_leadsTo 21 = .ok (.ireturn, 1) := by decide +kernel
set_option maxRecDepth 20000 in
theorem ggX10_noPlace_X10_in : GoodIn wsX10_noPlace wsX10_in := goodIn_r _ [4] (by decide +kernel) (by decide +kernel)
set_option maxRecDepth 20000 in
theorem gX10_noPlace_X10_in : GoodIn wsX10_noPlace (va_wsS RX10 66 yX10_in wsX10_in) := goodIn_app (goodIn_of _ (by decide +kernel)) ggX10_noPlace_X10_in
theorem dX10_noPlace_0 : decode cX10_noPlace 0 = .ok (.iload_n 0, 1) := by decide +kernel
theorem dX10_noPlace_1 : decode cX10_noPlace 1 = .ok (.iconst 0, 1) := by decide +kernel
theorem dX10_noPlace_2 : decode cX10_noPlace 2 = .ok (.iconst 4, 1) := by decide +kernel
theorem dX10_noPlace_3 : decode cX10_noPlace 3 = .ok (.invokestatic 66, 3) := by decide +kernel
theorem dX10_noPlace_6 : decode cX10_noPlace 6 = .ok (.ifCond .ne 7, 3) := by decide +kernel
theorem dX10_noPlace_9 : decode cX10_noPlace 9 = .ok (.iconst 1, 1) := by decide +kernel
theorem dX10_noPlace_10 : decode cX10_noPlace 10 = .ok (.goto 4, 3) := by decide +kernel
theorem dX10_noPlace_13 : decode cX10_noPlace 13 = .ok (.iconst 0, 1) := by decide +kernel
theorem dX10_noPlace_14 : decode cX10_noPlace 14 = .ok (.ireturn, 1) := by decide +kernel
set_option maxRecDepth 20000 in
theorem ggX10_noClaim_X10_noPlace : GoodIn wsX10_noClaim wsX10_noPlace := goodIn_r _ [5, 6, 7, 4, 8] (by decide +kernel) (by decide +kernel)
set_option maxRecDepth 20000 in
theorem gX10_noClaim_X10_noPlace : GoodIn wsX10_noClaim (va_wsS RX10 70 yX10_noPlace wsX10_noPlace) := goodIn_app (goodIn_of _ (by decide +kernel)) ggX10_noClaim_X10_noPlace
theorem dX10_noClaim_0 : decode cX10_noClaim 0 = .ok (.iload_n 1, 1) := by decide +kernel
theorem dX10_noClaim_1 : decode cX10_noClaim 1 = .ok (.invokestatic 70, 3) := by decide +kernel
theorem dX10_noClaim_4 : decode cX10_noClaim 4 = .ok (.ifCond .ne 18, 3) := by decide +kernel
theorem dX10_noClaim_7 : decode cX10_noClaim 7 = .ok (.aload_n 0, 1) := by decide +kernel
theorem dX10_noClaim_8 : decode cX10_noClaim 8 = .ok (.getfield 7, 3) := by decide +kernel
theorem dX10_noClaim_11 : decode cX10_noClaim 11 = .ok (.bipush 17, 2) := by decide +kernel
theorem dX10_noClaim_13 : decode cX10_noClaim 13 = .ok (.bipush 31, 2) := by decide +kernel
theorem dX10_noClaim_15 : decode cX10_noClaim 15 = .ok (.iload_n 1, 1) := by decide +kernel
theorem dX10_noClaim_16 : decode cX10_noClaim 16 = .ok (.imul, 1) := by decide +kernel
theorem dX10_noClaim_17 : decode cX10_noClaim 17 = .ok (.iadd, 1) := by decide +kernel
theorem dX10_noClaim_18 : decode cX10_noClaim 18 = .ok (.iaload, 1) := by decide +kernel
theorem dX10_noClaim_19 : decode cX10_noClaim 19 = .ok (.ifCond .ne 7, 3) := by decide +kernel
theorem dX10_noClaim_22 : decode cX10_noClaim 22 = .ok (.iconst 1, 1) := by decide +kernel
theorem dX10_noClaim_23 : decode cX10_noClaim 23 = .ok (.goto 4, 3) := by decide +kernel
theorem dX10_noClaim_26 : decode cX10_noClaim 26 = .ok (.iconst 0, 1) := by decide +kernel
theorem dX10_noClaim_27 : decode cX10_noClaim 27 = .ok (.ireturn, 1) := by decide +kernel
theorem dX10_bits_0 : decode cX10_bits 0 = .ok (.iconst 0, 1) := by decide +kernel
theorem dX10_bits_1 : decode cX10_bits 1 = .ok (.istore_n 1, 1) := by decide +kernel
theorem dX10_bits_2 : decode cX10_bits 2 = .ok (.iconst 0, 1) := by decide +kernel
theorem dX10_bits_3 : decode cX10_bits 3 = .ok (.istore_n 2, 1) := by decide +kernel
theorem dX10_bits_4 : decode cX10_bits 4 = .ok (.iload_n 2, 1) := by decide +kernel
theorem dX10_bits_5 : decode cX10_bits 5 = .ok (.bipush 16, 2) := by decide +kernel
theorem dX10_bits_7 : decode cX10_bits 7 = .ok (.if_icmp .ge 17, 3) := by decide +kernel
theorem dX10_bits_10 : decode cX10_bits 10 = .ok (.iload_n 1, 1) := by decide +kernel
theorem dX10_bits_11 : decode cX10_bits 11 = .ok (.iload_n 0, 1) := by decide +kernel
theorem dX10_bits_12 : decode cX10_bits 12 = .ok (.iload_n 2, 1) := by decide +kernel
theorem dX10_bits_13 : decode cX10_bits 13 = .ok (.ishr, 1) := by decide +kernel
theorem dX10_bits_14 : decode cX10_bits 14 = .ok (.iconst 1, 1) := by decide +kernel
theorem dX10_bits_15 : decode cX10_bits 15 = .ok (.iand, 1) := by decide +kernel
theorem dX10_bits_16 : decode cX10_bits 16 = .ok (.iadd, 1) := by decide +kernel
theorem dX10_bits_17 : decode cX10_bits 17 = .ok (.istore_n 1, 1) := by decide +kernel
theorem dX10_bits_18 : decode cX10_bits 18 = .ok (.iinc 2 1, 3) := by decide +kernel
theorem dX10_bits_21 : decode cX10_bits 21 = .ok (.goto (-17), 3) := by decide +kernel
theorem dX10_bits_24 : decode cX10_bits 24 = .ok (.iload_n 1, 1) := by decide +kernel
theorem dX10_bits_25 : decode cX10_bits 25 = .ok (.ireturn, 1) := by decide +kernel
theorem dX10_record_0 : decode cX10_record 0 = .ok (.aload_n 0, 1) := by decide +kernel
theorem dX10_record_1 : decode cX10_record 1 = .ok (.getfield 74, 3) := by decide +kernel
theorem dX10_record_4 : decode cX10_record 4 = .ok (.iconst 4, 1) := by decide +kernel
theorem dX10_record_5 : decode cX10_record 5 = .ok (.if_icmp .ne 44, 3) := by decide +kernel
theorem dX10_record_8 : decode cX10_record 8 = .ok (.iconst 0, 1) := by decide +kernel
theorem dX10_record_9 : decode cX10_record 9 = .ok (.istore_n 1, 1) := by decide +kernel
theorem dX10_record_10 : decode cX10_record 10 = .ok (.iload_n 1, 1) := by decide +kernel
theorem dX10_record_11 : decode cX10_record 11 = .ok (.sipush 516, 3) := by decide +kernel
theorem dX10_record_14 : decode cX10_record 14 = .ok (.if_icmp .ge 25, 3) := by decide +kernel
theorem dX10_record_17 : decode cX10_record 17 = .ok (.aload_n 0, 1) := by decide +kernel
theorem dX10_record_18 : decode cX10_record 18 = .ok (.getfield 13, 3) := by decide +kernel
theorem dX10_record_21 : decode cX10_record 21 = .ok (.iload_n 1, 1) := by decide +kernel
theorem dX10_record_22 : decode cX10_record 22 = .ok (.aload_n 0, 1) := by decide +kernel
theorem dX10_record_23 : decode cX10_record 23 = .ok (.getfield 13, 3) := by decide +kernel
theorem dX10_record_26 : decode cX10_record 26 = .ok (.iload_n 1, 1) := by decide +kernel
theorem dX10_record_27 : decode cX10_record 27 = .ok (.sipush 172, 3) := by decide +kernel
theorem dX10_record_30 : decode cX10_record 30 = .ok (.iadd, 1) := by decide +kernel
theorem dX10_record_31 : decode cX10_record 31 = .ok (.iaload, 1) := by decide +kernel
theorem dX10_record_32 : decode cX10_record 32 = .ok (.iastore, 1) := by decide +kernel
theorem dX10_record_33 : decode cX10_record 33 = .ok (.iinc 1 1, 3) := by decide +kernel
theorem dX10_record_36 : decode cX10_record 36 = .ok (.goto (-26), 3) := by decide +kernel
theorem dX10_record_39 : decode cX10_record 39 = .ok (.aload_n 0, 1) := by decide +kernel
theorem dX10_record_40 : decode cX10_record 40 = .ok (.dup, 1) := by decide +kernel
theorem dX10_record_41 : decode cX10_record 41 = .ok (.getfield 74, 3) := by decide +kernel
theorem dX10_record_44 : decode cX10_record 44 = .ok (.iconst 1, 1) := by decide +kernel
theorem dX10_record_45 : decode cX10_record 45 = .ok (.isub, 1) := by decide +kernel
theorem dX10_record_46 : decode cX10_record 46 = .ok (.putfield 74, 3) := by decide +kernel
theorem dX10_record_49 : decode cX10_record 49 = .ok (.iconst 0, 1) := by decide +kernel
theorem dX10_record_50 : decode cX10_record 50 = .ok (.istore_n 1, 1) := by decide +kernel
theorem dX10_record_51 : decode cX10_record 51 = .ok (.iload_n 1, 1) := by decide +kernel
theorem dX10_record_52 : decode cX10_record 52 = .ok (.sipush 172, 3) := by decide +kernel
theorem dX10_record_55 : decode cX10_record 55 = .ok (.if_icmp .ge 30, 3) := by decide +kernel
theorem dX10_record_58 : decode cX10_record 58 = .ok (.aload_n 0, 1) := by decide +kernel
theorem dX10_record_59 : decode cX10_record 59 = .ok (.getfield 13, 3) := by decide +kernel
theorem dX10_record_62 : decode cX10_record 62 = .ok (.sipush 172, 3) := by decide +kernel
theorem dX10_record_65 : decode cX10_record 65 = .ok (.aload_n 0, 1) := by decide +kernel
theorem dX10_record_66 : decode cX10_record 66 = .ok (.getfield 74, 3) := by decide +kernel
theorem dX10_record_69 : decode cX10_record 69 = .ok (.imul, 1) := by decide +kernel
theorem dX10_record_70 : decode cX10_record 70 = .ok (.iload_n 1, 1) := by decide +kernel
theorem dX10_record_71 : decode cX10_record 71 = .ok (.iadd, 1) := by decide +kernel
theorem dX10_record_72 : decode cX10_record 72 = .ok (.aload_n 0, 1) := by decide +kernel
theorem dX10_record_73 : decode cX10_record 73 = .ok (.getfield 7, 3) := by decide +kernel
theorem dX10_record_76 : decode cX10_record 76 = .ok (.iload_n 1, 1) := by decide +kernel
theorem dX10_record_77 : decode cX10_record 77 = .ok (.iaload, 1) := by decide +kernel
theorem dX10_record_78 : decode cX10_record 78 = .ok (.iastore, 1) := by decide +kernel
theorem dX10_record_79 : decode cX10_record 79 = .ok (.iinc 1 1, 3) := by decide +kernel
theorem dX10_record_82 : decode cX10_record 82 = .ok (.goto (-31), 3) := by decide +kernel
theorem dX10_record_85 : decode cX10_record 85 = .ok (.aload_n 0, 1) := by decide +kernel
theorem dX10_record_86 : decode cX10_record 86 = .ok (.dup, 1) := by decide +kernel
theorem dX10_record_87 : decode cX10_record 87 = .ok (.getfield 74, 3) := by decide +kernel
theorem dX10_record_90 : decode cX10_record 90 = .ok (.iconst 1, 1) := by decide +kernel
theorem dX10_record_91 : decode cX10_record 91 = .ok (.iadd, 1) := by decide +kernel
theorem dX10_record_92 : decode cX10_record 92 = .ok (.putfield 74, 3) := by decide +kernel
theorem dX10_record_95 : decode cX10_record 95 = .ok (.return_, 1) := by decide +kernel
theorem dX10_knownAt_0 : decode cX10_knownAt 0 = .ok (.iconst 0, 1) := by decide +kernel
theorem dX10_knownAt_1 : decode cX10_knownAt 1 = .ok (.istore_n 2, 1) := by decide +kernel
theorem dX10_knownAt_2 : decode cX10_knownAt 2 = .ok (.iconst 0, 1) := by decide +kernel
theorem dX10_knownAt_3 : decode cX10_knownAt 3 = .ok (.istore_n 3, 1) := by decide +kernel
theorem dX10_knownAt_4 : decode cX10_knownAt 4 = .ok (.iload_n 3, 1) := by decide +kernel
theorem dX10_knownAt_5 : decode cX10_knownAt 5 = .ok (.aload_n 0, 1) := by decide +kernel
theorem dX10_knownAt_6 : decode cX10_knownAt 6 = .ok (.getfield 7, 3) := by decide +kernel
theorem dX10_knownAt_9 : decode cX10_knownAt 9 = .ok (.bipush 16, 2) := by decide +kernel
theorem dX10_knownAt_11 : decode cX10_knownAt 11 = .ok (.iaload, 1) := by decide +kernel
theorem dX10_knownAt_12 : decode cX10_knownAt 12 = .ok (.if_icmp .ge 27, 3) := by decide +kernel
theorem dX10_knownAt_15 : decode cX10_knownAt 15 = .ok (.iload_n 2, 1) := by decide +kernel
theorem dX10_knownAt_16 : decode cX10_knownAt 16 = .ok (.aload_n 0, 1) := by decide +kernel
theorem dX10_knownAt_17 : decode cX10_knownAt 17 = .ok (.getfield 7, 3) := by decide +kernel
theorem dX10_knownAt_20 : decode cX10_knownAt 20 = .ok (.bipush 8, 2) := by decide +kernel
theorem dX10_knownAt_22 : decode cX10_knownAt 22 = .ok (.iload_n 3, 1) := by decide +kernel
theorem dX10_knownAt_23 : decode cX10_knownAt 23 = .ok (.iadd, 1) := by decide +kernel
theorem dX10_knownAt_24 : decode cX10_knownAt 24 = .ok (.iaload, 1) := by decide +kernel
theorem dX10_knownAt_25 : decode cX10_knownAt 25 = .ok (.iload_n 1, 1) := by decide +kernel
theorem dX10_knownAt_26 : decode cX10_knownAt 26 = .ok (.ishr, 1) := by decide +kernel
theorem dX10_knownAt_27 : decode cX10_knownAt 27 = .ok (.iconst 1, 1) := by decide +kernel
theorem dX10_knownAt_28 : decode cX10_knownAt 28 = .ok (.iand, 1) := by decide +kernel
theorem dX10_knownAt_29 : decode cX10_knownAt 29 = .ok (.iload_n 3, 1) := by decide +kernel
theorem dX10_knownAt_30 : decode cX10_knownAt 30 = .ok (.ishl, 1) := by decide +kernel
theorem dX10_knownAt_31 : decode cX10_knownAt 31 = .ok (.ior, 1) := by decide +kernel
theorem dX10_knownAt_32 : decode cX10_knownAt 32 = .ok (.istore_n 2, 1) := by decide +kernel
theorem dX10_knownAt_33 : decode cX10_knownAt 33 = .ok (.iinc 3 1, 3) := by decide +kernel
theorem dX10_knownAt_36 : decode cX10_knownAt 36 = .ok (.goto (-32), 3) := by decide +kernel
theorem dX10_knownAt_39 : decode cX10_knownAt 39 = .ok (.iload_n 2, 1) := by decide +kernel
theorem dX10_knownAt_40 : decode cX10_knownAt 40 = .ok (.ireturn, 1) := by decide +kernel
set_option maxRecDepth 20000 in
theorem ggX10_leadingTo_X10_leadsTo : GoodIn wsX10_leadingTo wsX10_leadsTo := goodIn_r _ [6, 1, 7, 8, 9, 10, 11, 12, 13, 14, 15, 16, 17, 18, 19, 20, 21, 22, 23, 24, 25, 26, 27, 28, 29, 30, 31] (by decide +kernel) (by decide +kernel)
set_option maxRecDepth 20000 in
theorem gX10_leadingTo_X10_leadsTo : GoodIn wsX10_leadingTo (wsV RX10 78 RX10 yX10_leadsTo wsX10_leadsTo) := goodIn_app (goodIn_of _ (by decide +kernel)) ggX10_leadingTo_X10_leadsTo
theorem dX10_leadingTo_0 : decode cX10_leadingTo 0 = .ok (.iconst 0, 1) := by decide +kernel
theorem dX10_leadingTo_1 : decode cX10_leadingTo 1 = .ok (.istore_n 2, 1) := by decide +kernel
theorem dX10_leadingTo_2 : decode cX10_leadingTo 2 = .ok (.iconst 0, 1) := by decide +kernel
theorem dX10_leadingTo_3 : decode cX10_leadingTo 3 = .ok (.istore_n 3, 1) := by decide +kernel
theorem dX10_leadingTo_4 : decode cX10_leadingTo 4 = .ok (.iload_n 3, 1) := by decide +kernel
theorem dX10_leadingTo_5 : decode cX10_leadingTo 5 = .ok (.aload_n 0, 1) := by decide +kernel
theorem dX10_leadingTo_6 : decode cX10_leadingTo 6 = .ok (.getfield 7, 3) := by decide +kernel
theorem dX10_leadingTo_9 : decode cX10_leadingTo 9 = .ok (.bipush 16, 2) := by decide +kernel
theorem dX10_leadingTo_11 : decode cX10_leadingTo 11 = .ok (.iaload, 1) := by decide +kernel
theorem dX10_leadingTo_12 : decode cX10_leadingTo 12 = .ok (.if_icmp .ge 28, 3) := by decide +kernel
theorem dX10_leadingTo_15 : decode cX10_leadingTo 15 = .ok (.iload_n 2, 1) := by decide +kernel
theorem dX10_leadingTo_16 : decode cX10_leadingTo 16 = .ok (.aload_n 0, 1) := by decide +kernel
theorem dX10_leadingTo_17 : decode cX10_leadingTo 17 = .ok (.iload_n 3, 1) := by decide +kernel
theorem dX10_leadingTo_18 : decode cX10_leadingTo 18 = .ok (.iload_n 1, 1) := by decide +kernel
theorem dX10_leadingTo_19 : decode cX10_leadingTo 19 = .ok (.invokevirtual 78, 3) := by decide +kernel
theorem dX10_leadingTo_22 : decode cX10_leadingTo 22 = .ok (.ifCond .eq 9, 3) := by decide +kernel
theorem dX10_leadingTo_25 : decode cX10_leadingTo 25 = .ok (.iconst 1, 1) := by decide +kernel
theorem dX10_leadingTo_26 : decode cX10_leadingTo 26 = .ok (.iload_n 3, 1) := by decide +kernel
theorem dX10_leadingTo_27 : decode cX10_leadingTo 27 = .ok (.ishl, 1) := by decide +kernel
theorem dX10_leadingTo_28 : decode cX10_leadingTo 28 = .ok (.goto 4, 3) := by decide +kernel
theorem dX10_leadingTo_31 : decode cX10_leadingTo 31 = .ok (.iconst 0, 1) := by decide +kernel
theorem dX10_leadingTo_32 : decode cX10_leadingTo 32 = .ok (.ior, 1) := by decide +kernel
theorem dX10_leadingTo_33 : decode cX10_leadingTo 33 = .ok (.istore_n 2, 1) := by decide +kernel
theorem dX10_leadingTo_34 : decode cX10_leadingTo 34 = .ok (.iinc 3 1, 3) := by decide +kernel
theorem dX10_leadingTo_37 : decode cX10_leadingTo 37 = .ok (.goto (-33), 3) := by decide +kernel
theorem dX10_leadingTo_40 : decode cX10_leadingTo 40 = .ok (.iload_n 2, 1) := by decide +kernel
theorem dX10_leadingTo_41 : decode cX10_leadingTo 41 = .ok (.ireturn, 1) := by decide +kernel
set_option maxRecDepth 20000 in
theorem ggX10_pairs_X10_bits : GoodIn wsX10_pairs wsX10_bits := goodIn_r _ [5] (by decide +kernel) (by decide +kernel)
set_option maxRecDepth 20000 in
theorem gX10_pairs_X10_bits : GoodIn wsX10_pairs (va_wsS RX10 82 yX10_bits wsX10_bits) := goodIn_app (goodIn_of _ (by decide +kernel)) ggX10_pairs_X10_bits
theorem dX10_pairs_0 : decode cX10_pairs 0 = .ok (.iconst 0, 1) := by decide +kernel
theorem dX10_pairs_1 : decode cX10_pairs 1 = .ok (.istore_n 1, 1) := by decide +kernel
theorem dX10_pairs_2 : decode cX10_pairs 2 = .ok (.iconst 0, 1) := by decide +kernel
theorem dX10_pairs_3 : decode cX10_pairs 3 = .ok (.istore_n 2, 1) := by decide +kernel
theorem dX10_pairs_4 : decode cX10_pairs 4 = .ok (.iload_n 2, 1) := by decide +kernel
theorem dX10_pairs_5 : decode cX10_pairs 5 = .ok (.aload_n 0, 1) := by decide +kernel
theorem dX10_pairs_6 : decode cX10_pairs 6 = .ok (.getfield 7, 3) := by decide +kernel
theorem dX10_pairs_9 : decode cX10_pairs 9 = .ok (.bipush 16, 2) := by decide +kernel
theorem dX10_pairs_11 : decode cX10_pairs 11 = .ok (.iaload, 1) := by decide +kernel
theorem dX10_pairs_12 : decode cX10_pairs 12 = .ok (.if_icmp .ge 25, 3) := by decide +kernel
theorem dX10_pairs_15 : decode cX10_pairs 15 = .ok (.iload_n 1, 1) := by decide +kernel
theorem dX10_pairs_16 : decode cX10_pairs 16 = .ok (.aload_n 0, 1) := by decide +kernel
theorem dX10_pairs_17 : decode cX10_pairs 17 = .ok (.getfield 7, 3) := by decide +kernel
theorem dX10_pairs_20 : decode cX10_pairs 20 = .ok (.iconst 0, 1) := by decide +kernel
theorem dX10_pairs_21 : decode cX10_pairs 21 = .ok (.iload_n 2, 1) := by decide +kernel
theorem dX10_pairs_22 : decode cX10_pairs 22 = .ok (.iadd, 1) := by decide +kernel
theorem dX10_pairs_23 : decode cX10_pairs 23 = .ok (.iaload, 1) := by decide +kernel
theorem dX10_pairs_24 : decode cX10_pairs 24 = .ok (.invokestatic 82, 3) := by decide +kernel
theorem dX10_pairs_27 : decode cX10_pairs 27 = .ok (.iconst 1, 1) := by decide +kernel
theorem dX10_pairs_28 : decode cX10_pairs 28 = .ok (.isub, 1) := by decide +kernel
theorem dX10_pairs_29 : decode cX10_pairs 29 = .ok (.iadd, 1) := by decide +kernel
theorem dX10_pairs_30 : decode cX10_pairs 30 = .ok (.istore_n 1, 1) := by decide +kernel
theorem dX10_pairs_31 : decode cX10_pairs 31 = .ok (.iinc 2 1, 3) := by decide +kernel
theorem dX10_pairs_34 : decode cX10_pairs 34 = .ok (.goto (-30), 3) := by decide +kernel
theorem dX10_pairs_37 : decode cX10_pairs 37 = .ok (.iload_n 1, 1) := by decide +kernel
theorem dX10_pairs_38 : decode cX10_pairs 38 = .ok (.ireturn, 1) := by decide +kernel
set_option maxRecDepth 20000 in
theorem ggX10_addStage_X10_noStage : GoodIn wsX10_addStage wsX10_noStage := goodIn_r _ [6, 1, 7, 8, 5, 9, 20, 21, 22, 23, 24, 25, 26, 27, 28, 29, 30, 31, 32, 33, 34, 35, 36, 37, 38, 39, 40, 41, 42, 43, 44] (by decide +kernel) (by decide +kernel)
set_option maxRecDepth 20000 in
theorem gX10_addStage_X10_noStage : GoodIn wsX10_addStage (wsV RX10 86 RX10 yX10_noStage wsX10_noStage) := goodIn_app (goodIn_of _ (by decide +kernel)) ggX10_addStage_X10_noStage
set_option maxRecDepth 20000 in
theorem ggX10_addStage_X10_record : GoodIn wsX10_addStage wsX10_record := goodIn_r _ [13, 14, 15, 1, 20, 21, 22, 23, 24, 25, 26, 27, 28, 29, 30, 31, 32, 33, 34, 35, 36, 37, 38, 39, 40, 41, 42, 43, 44] (by decide +kernel) (by decide +kernel)
set_option maxRecDepth 20000 in
theorem gX10_addStage_X10_record : GoodIn wsX10_addStage (wsV RX10 89 RX10 yX10_record wsX10_record) := goodIn_app (goodIn_of _ (by decide +kernel)) ggX10_addStage_X10_record
set_option maxRecDepth 20000 in
theorem ggX10_addStage_X10_leadsTo : GoodIn wsX10_addStage wsX10_leadsTo := goodIn_r _ [19, 1, 20, 21, 22, 23, 24, 25, 26, 27, 28, 29, 30, 31, 32, 33, 34, 35, 36, 37, 38, 39, 40, 41, 42, 43, 44] (by decide +kernel) (by decide +kernel)
set_option maxRecDepth 20000 in
theorem gX10_addStage_X10_leadsTo : GoodIn wsX10_addStage (wsV RX10 78 RX10 yX10_leadsTo wsX10_leadsTo) := goodIn_app (goodIn_of _ (by decide +kernel)) ggX10_addStage_X10_leadsTo
theorem dX10_addStage_0 : decode cX10_addStage 0 = .ok (.aload_n 0, 1) := by decide +kernel
theorem dX10_addStage_1 : decode cX10_addStage 1 = .ok (.iload_n 1, 1) := by decide +kernel
theorem dX10_addStage_2 : decode cX10_addStage 2 = .ok (.invokevirtual 86, 3) := by decide +kernel
theorem dX10_addStage_5 : decode cX10_addStage 5 = .ok (.ifCond .eq 5, 3) := by decide +kernel
theorem dX10_addStage_8 : decode cX10_addStage 8 = .ok (.iconst (-1), 1) := by decide +kernel
theorem dX10_addStage_9 : decode cX10_addStage 9 = .ok (.ireturn, 1) := by decide +kernel
theorem dX10_addStage_10 : decode cX10_addStage 10 = .ok (.aload_n 0, 1) := by decide +kernel
theorem dX10_addStage_11 : decode cX10_addStage 11 = .ok (.getfield 7, 3) := by decide +kernel
theorem dX10_addStage_14 : decode cX10_addStage 14 = .ok (.bipush 16, 2) := by decide +kernel
theorem dX10_addStage_16 : decode cX10_addStage 16 = .ok (.iaload, 1) := by decide +kernel
theorem dX10_addStage_17 : decode cX10_addStage 17 = .ok (.istore_n 2, 1) := by decide +kernel
theorem dX10_addStage_18 : decode cX10_addStage 18 = .ok (.iload_n 2, 1) := by decide +kernel
theorem dX10_addStage_19 : decode cX10_addStage 19 = .ok (.bipush 8, 2) := by decide +kernel
theorem dX10_addStage_21 : decode cX10_addStage 21 = .ok (.if_icmp .ne 6, 3) := by decide +kernel
theorem dX10_addStage_24 : decode cX10_addStage 24 = .ok (.bipush (-3), 2) := by decide +kernel
theorem dX10_addStage_26 : decode cX10_addStage 26 = .ok (.ireturn, 1) := by decide +kernel
theorem dX10_addStage_27 : decode cX10_addStage 27 = .ok (.aload_n 0, 1) := by decide +kernel
theorem dX10_addStage_28 : decode cX10_addStage 28 = .ok (.invokevirtual 89, 3) := by decide +kernel
theorem dX10_addStage_31 : decode cX10_addStage 31 = .ok (.iconst 0, 1) := by decide +kernel
theorem dX10_addStage_32 : decode cX10_addStage 32 = .ok (.istore_n 3, 1) := by decide +kernel
theorem dX10_addStage_33 : decode cX10_addStage 33 = .ok (.iload_n 3, 1) := by decide +kernel
theorem dX10_addStage_34 : decode cX10_addStage 34 = .ok (.iload_n 2, 1) := by decide +kernel
theorem dX10_addStage_35 : decode cX10_addStage 35 = .ok (.if_icmp .ge 36, 3) := by decide +kernel
theorem dX10_addStage_38 : decode cX10_addStage 38 = .ok (.aload_n 0, 1) := by decide +kernel
theorem dX10_addStage_39 : decode cX10_addStage 39 = .ok (.getfield 7, 3) := by decide +kernel
theorem dX10_addStage_42 : decode cX10_addStage 42 = .ok (.iconst 0, 1) := by decide +kernel
theorem dX10_addStage_43 : decode cX10_addStage 43 = .ok (.iload_n 3, 1) := by decide +kernel
theorem dX10_addStage_44 : decode cX10_addStage 44 = .ok (.iadd, 1) := by decide +kernel
theorem dX10_addStage_45 : decode cX10_addStage 45 = .ok (.dup2, 1) := by decide +kernel
theorem dX10_addStage_46 : decode cX10_addStage 46 = .ok (.iaload, 1) := by decide +kernel
theorem dX10_addStage_47 : decode cX10_addStage 47 = .ok (.aload_n 0, 1) := by decide +kernel
theorem dX10_addStage_48 : decode cX10_addStage 48 = .ok (.iload_n 3, 1) := by decide +kernel
theorem dX10_addStage_49 : decode cX10_addStage 49 = .ok (.iload_n 1, 1) := by decide +kernel
theorem dX10_addStage_50 : decode cX10_addStage 50 = .ok (.invokevirtual 78, 3) := by decide +kernel
theorem dX10_addStage_53 : decode cX10_addStage 53 = .ok (.ifCond .eq 9, 3) := by decide +kernel
theorem dX10_addStage_56 : decode cX10_addStage 56 = .ok (.iconst 1, 1) := by decide +kernel
theorem dX10_addStage_57 : decode cX10_addStage 57 = .ok (.iload_n 2, 1) := by decide +kernel
theorem dX10_addStage_58 : decode cX10_addStage 58 = .ok (.ishl, 1) := by decide +kernel
theorem dX10_addStage_59 : decode cX10_addStage 59 = .ok (.goto 4, 3) := by decide +kernel
theorem dX10_addStage_62 : decode cX10_addStage 62 = .ok (.iconst 0, 1) := by decide +kernel
theorem dX10_addStage_63 : decode cX10_addStage 63 = .ok (.ior, 1) := by decide +kernel
theorem dX10_addStage_64 : decode cX10_addStage 64 = .ok (.iastore, 1) := by decide +kernel
theorem dX10_addStage_65 : decode cX10_addStage 65 = .ok (.iinc 3 1, 3) := by decide +kernel
theorem dX10_addStage_68 : decode cX10_addStage 68 = .ok (.goto (-35), 3) := by decide +kernel
theorem dX10_addStage_71 : decode cX10_addStage 71 = .ok (.aload_n 0, 1) := by decide +kernel
theorem dX10_addStage_72 : decode cX10_addStage 72 = .ok (.getfield 7, 3) := by decide +kernel
theorem dX10_addStage_75 : decode cX10_addStage 75 = .ok (.iconst 0, 1) := by decide +kernel
theorem dX10_addStage_76 : decode cX10_addStage 76 = .ok (.iload_n 2, 1) := by decide +kernel
theorem dX10_addStage_77 : decode cX10_addStage 77 = .ok (.iadd, 1) := by decide +kernel
theorem dX10_addStage_78 : decode cX10_addStage 78 = .ok (.iconst 1, 1) := by decide +kernel
theorem dX10_addStage_79 : decode cX10_addStage 79 = .ok (.iload_n 2, 1) := by decide +kernel
theorem dX10_addStage_80 : decode cX10_addStage 80 = .ok (.ishl, 1) := by decide +kernel
theorem dX10_addStage_81 : decode cX10_addStage 81 = .ok (.iastore, 1) := by decide +kernel
theorem dX10_addStage_82 : decode cX10_addStage 82 = .ok (.aload_n 0, 1) := by decide +kernel
theorem dX10_addStage_83 : decode cX10_addStage 83 = .ok (.getfield 7, 3) := by decide +kernel
theorem dX10_addStage_86 : decode cX10_addStage 86 = .ok (.bipush 8, 2) := by decide +kernel
theorem dX10_addStage_88 : decode cX10_addStage 88 = .ok (.iload_n 2, 1) := by decide +kernel
theorem dX10_addStage_89 : decode cX10_addStage 89 = .ok (.iadd, 1) := by decide +kernel
theorem dX10_addStage_90 : decode cX10_addStage 90 = .ok (.aload_n 0, 1) := by decide +kernel
theorem dX10_addStage_91 : decode cX10_addStage 91 = .ok (.getfield 7, 3) := by decide +kernel
theorem dX10_addStage_94 : decode cX10_addStage 94 = .ok (.bipush 8, 2) := by decide +kernel
theorem dX10_addStage_96 : decode cX10_addStage 96 = .ok (.iload_n 1, 1) := by decide +kernel
theorem dX10_addStage_97 : decode cX10_addStage 97 = .ok (.iadd, 1) := by decide +kernel
theorem dX10_addStage_98 : decode cX10_addStage 98 = .ok (.iaload, 1) := by decide +kernel
theorem dX10_addStage_99 : decode cX10_addStage 99 = .ok (.iastore, 1) := by decide +kernel
theorem dX10_addStage_100 : decode cX10_addStage 100 = .ok (.aload_n 0, 1) := by decide +kernel
theorem dX10_addStage_101 : decode cX10_addStage 101 = .ok (.getfield 7, 3) := by decide +kernel
theorem dX10_addStage_104 : decode cX10_addStage 104 = .ok (.bipush 16, 2) := by decide +kernel
theorem dX10_addStage_106 : decode cX10_addStage 106 = .ok (.dup2, 1) := by decide +kernel
theorem dX10_addStage_107 : decode cX10_addStage 107 = .ok (.iaload, 1) := by decide +kernel
theorem dX10_addStage_108 : decode cX10_addStage 108 = .ok (.iconst 1, 1) := by decide +kernel
theorem dX10_addStage_109 : decode cX10_addStage 109 = .ok (.iadd, 1) := by decide +kernel
theorem dX10_addStage_110 : decode cX10_addStage 110 = .ok (.iastore, 1) := by decide +kernel
theorem dX10_addStage_111 : decode cX10_addStage 111 = .ok (.iload_n 2, 1) := by decide +kernel
theorem dX10_addStage_112 : decode cX10_addStage 112 = .ok (.ireturn, 1) := by decide +kernel
set_option maxRecDepth 20000 in
theorem ggX10_lead_X10_noStage : GoodIn wsX10_lead wsX10_noStage := goodIn_r _ [6, 1, 7, 8, 5, 9, 31, 32, 33, 34, 35, 36, 37, 38, 39, 40, 41, 42, 43, 44, 45, 46, 47, 48, 49, 50, 51, 52, 53, 54, 55] (by decide +kernel) (by decide +kernel)
set_option maxRecDepth 20000 in
theorem gX10_lead_X10_noStage : GoodIn wsX10_lead (wsV RX10 86 RX10 yX10_noStage wsX10_noStage) := goodIn_app (goodIn_of _ (by decide +kernel)) ggX10_lead_X10_noStage
set_option maxRecDepth 20000 in
theorem ggX10_lead_X10_leadsTo : GoodIn wsX10_lead wsX10_leadsTo := goodIn_r _ [13, 1, 31, 32, 33, 34, 35, 36, 37, 38, 39, 40, 41, 42, 43, 44, 45, 46, 47, 48, 49, 50, 51, 52, 53, 54, 55] (by decide +kernel) (by decide +kernel)
set_option maxRecDepth 20000 in
theorem gX10_lead_X10_leadsTo : GoodIn wsX10_lead (wsV RX10 78 RX10 yX10_leadsTo wsX10_leadsTo) := goodIn_app (goodIn_of _ (by decide +kernel)) ggX10_lead_X10_leadsTo
set_option maxRecDepth 20000 in
theorem ggX10_lead_X10_record : GoodIn wsX10_lead wsX10_record := goodIn_r _ [17, 18, 19, 1, 31, 32, 33, 34, 35, 36, 37, 38, 39, 40, 41, 42, 43, 44, 45, 46, 47, 48, 49, 50, 51, 52, 53, 54, 55] (by decide +kernel) (by decide +kernel)
set_option maxRecDepth 20000 in
theorem gX10_lead_X10_record : GoodIn wsX10_lead (wsV RX10 89 RX10 yX10_record wsX10_record) := goodIn_app (goodIn_of _ (by decide +kernel)) ggX10_lead_X10_record
set_option maxRecDepth 20000 in
theorem ggX10_lead_X10_pairs : GoodIn wsX10_lead wsX10_pairs := goodIn_r _ [23, 1, 24, 25, 5, 26, 31, 32, 33, 34, 35, 36, 37, 38, 39, 40, 41, 42, 43, 44, 45, 46, 47, 48, 49, 50, 51, 52, 53, 54, 55] (by decide +kernel) (by decide +kernel)
set_option maxRecDepth 20000 in
theorem gX10_lead_X10_pairs : GoodIn wsX10_lead (wsV RX10 92 RX10 yX10_pairs wsX10_pairs) := goodIn_app (goodIn_of _ (by decide +kernel)) ggX10_lead_X10_pairs
set_option maxRecDepth 20000 in
theorem ggX10_lead_X10_leadingTo : GoodIn wsX10_lead wsX10_leadingTo := goodIn_r _ [30, 1, 10, 11, 12, 5, 13, 31, 32, 33, 34, 35, 36, 37, 38, 39, 40, 41, 42, 43, 44, 45, 46, 47, 48, 49, 50, 51, 52, 53, 54, 55] (by decide +kernel) (by decide +kernel)
set_option maxRecDepth 20000 in
theorem gX10_lead_X10_leadingTo : GoodIn wsX10_lead (wsV RX10 96 RX10 yX10_leadingTo wsX10_leadingTo) := goodIn_app (goodIn_of _ (by decide +kernel)) ggX10_lead_X10_leadingTo
theorem dX10_lead_0 : decode cX10_lead 0 = .ok (.aload_n 0, 1) := by decide +kernel
theorem dX10_lead_1 : decode cX10_lead 1 = .ok (.iload_n 1, 1) := by decide +kernel
theorem dX10_lead_2 : decode cX10_lead 2 = .ok (.invokevirtual 86, 3) := by decide +kernel
theorem dX10_lead_5 : decode cX10_lead 5 = .ok (.ifCond .ne 11, 3) := by decide +kernel
theorem dX10_lead_8 : decode cX10_lead 8 = .ok (.aload_n 0, 1) := by decide +kernel
theorem dX10_lead_9 : decode cX10_lead 9 = .ok (.iload_n 2, 1) := by decide +kernel
theorem dX10_lead_10 : decode cX10_lead 10 = .ok (.invokevirtual 86, 3) := by decide +kernel
theorem dX10_lead_13 : decode cX10_lead 13 = .ok (.ifCond .eq 5, 3) := by decide +kernel
theorem dX10_lead_16 : decode cX10_lead 16 = .ok (.iconst (-1), 1) := by decide +kernel
theorem dX10_lead_17 : decode cX10_lead 17 = .ok (.ireturn, 1) := by decide +kernel
theorem dX10_lead_18 : decode cX10_lead 18 = .ok (.iload_n 2, 1) := by decide +kernel
theorem dX10_lead_19 : decode cX10_lead 19 = .ok (.iload_n 1, 1) := by decide +kernel
theorem dX10_lead_20 : decode cX10_lead 20 = .ok (.if_icmp .gt 6, 3) := by decide +kernel
theorem dX10_lead_23 : decode cX10_lead 23 = .ok (.bipush (-2), 2) := by decide +kernel
theorem dX10_lead_25 : decode cX10_lead 25 = .ok (.ireturn, 1) := by decide +kernel
theorem dX10_lead_26 : decode cX10_lead 26 = .ok (.aload_n 0, 1) := by decide +kernel
theorem dX10_lead_27 : decode cX10_lead 27 = .ok (.iload_n 1, 1) := by decide +kernel
theorem dX10_lead_28 : decode cX10_lead 28 = .ok (.iload_n 2, 1) := by decide +kernel
theorem dX10_lead_29 : decode cX10_lead 29 = .ok (.invokevirtual 78, 3) := by decide +kernel
theorem dX10_lead_32 : decode cX10_lead 32 = .ok (.ifCond .eq 6, 3) := by decide +kernel
theorem dX10_lead_35 : decode cX10_lead 35 = .ok (.bipush (-5), 2) := by decide +kernel
theorem dX10_lead_37 : decode cX10_lead 37 = .ok (.ireturn, 1) := by decide +kernel
theorem dX10_lead_38 : decode cX10_lead 38 = .ok (.aload_n 0, 1) := by decide +kernel
theorem dX10_lead_39 : decode cX10_lead 39 = .ok (.invokevirtual 89, 3) := by decide +kernel
theorem dX10_lead_42 : decode cX10_lead 42 = .ok (.aload_n 0, 1) := by decide +kernel
theorem dX10_lead_43 : decode cX10_lead 43 = .ok (.invokevirtual 92, 3) := by decide +kernel
theorem dX10_lead_46 : decode cX10_lead 46 = .ok (.istore_n 3, 1) := by decide +kernel
theorem dX10_lead_47 : decode cX10_lead 47 = .ok (.aload_n 0, 1) := by decide +kernel
theorem dX10_lead_48 : decode cX10_lead 48 = .ok (.getfield 7, 3) := by decide +kernel
theorem dX10_lead_51 : decode cX10_lead 51 = .ok (.iconst 0, 1) := by decide +kernel
theorem dX10_lead_52 : decode cX10_lead 52 = .ok (.iload_n 2, 1) := by decide +kernel
theorem dX10_lead_53 : decode cX10_lead 53 = .ok (.iadd, 1) := by decide +kernel
theorem dX10_lead_54 : decode cX10_lead 54 = .ok (.iaload, 1) := by decide +kernel
theorem dX10_lead_55 : decode cX10_lead 55 = .ok (.istore 4, 2) := by decide +kernel
theorem dX10_lead_57 : decode cX10_lead 57 = .ok (.aload_n 0, 1) := by decide +kernel
theorem dX10_lead_58 : decode cX10_lead 58 = .ok (.iload_n 1, 1) := by decide +kernel
theorem dX10_lead_59 : decode cX10_lead 59 = .ok (.invokevirtual 96, 3) := by decide +kernel
theorem dX10_lead_62 : decode cX10_lead 62 = .ok (.istore 5, 2) := by decide +kernel
theorem dX10_lead_64 : decode cX10_lead 64 = .ok (.iconst 0, 1) := by decide +kernel
theorem dX10_lead_65 : decode cX10_lead 65 = .ok (.istore 6, 2) := by decide +kernel
theorem dX10_lead_67 : decode cX10_lead 67 = .ok (.iload 6, 2) := by decide +kernel
theorem dX10_lead_69 : decode cX10_lead 69 = .ok (.aload_n 0, 1) := by decide +kernel
theorem dX10_lead_70 : decode cX10_lead 70 = .ok (.getfield 7, 3) := by decide +kernel
theorem dX10_lead_73 : decode cX10_lead 73 = .ok (.bipush 16, 2) := by decide +kernel
theorem dX10_lead_75 : decode cX10_lead 75 = .ok (.iaload, 1) := by decide +kernel
theorem dX10_lead_76 : decode cX10_lead 76 = .ok (.if_icmp .ge 75, 3) := by decide +kernel
theorem dX10_lead_79 : decode cX10_lead 79 = .ok (.aload_n 0, 1) := by decide +kernel
theorem dX10_lead_80 : decode cX10_lead 80 = .ok (.getfield 7, 3) := by decide +kernel
theorem dX10_lead_83 : decode cX10_lead 83 = .ok (.iconst 0, 1) := by decide +kernel
theorem dX10_lead_84 : decode cX10_lead 84 = .ok (.iload 6, 2) := by decide +kernel
theorem dX10_lead_86 : decode cX10_lead 86 = .ok (.iadd, 1) := by decide +kernel
theorem dX10_lead_87 : decode cX10_lead 87 = .ok (.dup2, 1) := by decide +kernel
theorem dX10_lead_88 : decode cX10_lead 88 = .ok (.iaload, 1) := by decide +kernel
theorem dX10_lead_89 : decode cX10_lead 89 = .ok (.iload 5, 2) := by decide +kernel
theorem dX10_lead_91 : decode cX10_lead 91 = .ok (.iload 6, 2) := by decide +kernel
theorem dX10_lead_93 : decode cX10_lead 93 = .ok (.ishr, 1) := by decide +kernel
theorem dX10_lead_94 : decode cX10_lead 94 = .ok (.iconst 1, 1) := by decide +kernel
theorem dX10_lead_95 : decode cX10_lead 95 = .ok (.iand, 1) := by decide +kernel
theorem dX10_lead_96 : decode cX10_lead 96 = .ok (.iconst 1, 1) := by decide +kernel
theorem dX10_lead_97 : decode cX10_lead 97 = .ok (.if_icmp .ne 8, 3) := by decide +kernel
theorem dX10_lead_100 : decode cX10_lead 100 = .ok (.iload 4, 2) := by decide +kernel
theorem dX10_lead_102 : decode cX10_lead 102 = .ok (.goto 4, 3) := by decide +kernel
theorem dX10_lead_105 : decode cX10_lead 105 = .ok (.iconst 0, 1) := by decide +kernel
theorem dX10_lead_106 : decode cX10_lead 106 = .ok (.ior, 1) := by decide +kernel
theorem dX10_lead_107 : decode cX10_lead 107 = .ok (.iastore, 1) := by decide +kernel
theorem dX10_lead_108 : decode cX10_lead 108 = .ok (.aload_n 0, 1) := by decide +kernel
theorem dX10_lead_109 : decode cX10_lead 109 = .ok (.getfield 7, 3) := by decide +kernel
theorem dX10_lead_112 : decode cX10_lead 112 = .ok (.bipush 8, 2) := by decide +kernel
theorem dX10_lead_114 : decode cX10_lead 114 = .ok (.iload 6, 2) := by decide +kernel
theorem dX10_lead_116 : decode cX10_lead 116 = .ok (.iadd, 1) := by decide +kernel
theorem dX10_lead_117 : decode cX10_lead 117 = .ok (.dup2, 1) := by decide +kernel
theorem dX10_lead_118 : decode cX10_lead 118 = .ok (.iaload, 1) := by decide +kernel
theorem dX10_lead_119 : decode cX10_lead 119 = .ok (.iload 4, 2) := by decide +kernel
theorem dX10_lead_121 : decode cX10_lead 121 = .ok (.iload 6, 2) := by decide +kernel
theorem dX10_lead_123 : decode cX10_lead 123 = .ok (.ishr, 1) := by decide +kernel
theorem dX10_lead_124 : decode cX10_lead 124 = .ok (.iconst 1, 1) := by decide +kernel
theorem dX10_lead_125 : decode cX10_lead 125 = .ok (.iand, 1) := by decide +kernel
theorem dX10_lead_126 : decode cX10_lead 126 = .ok (.iconst 1, 1) := by decide +kernel
theorem dX10_lead_127 : decode cX10_lead 127 = .ok (.if_icmp .ne 15, 3) := by decide +kernel
theorem dX10_lead_130 : decode cX10_lead 130 = .ok (.aload_n 0, 1) := by decide +kernel
theorem dX10_lead_131 : decode cX10_lead 131 = .ok (.getfield 7, 3) := by decide +kernel
theorem dX10_lead_134 : decode cX10_lead 134 = .ok (.bipush 8, 2) := by decide +kernel
theorem dX10_lead_136 : decode cX10_lead 136 = .ok (.iload_n 1, 1) := by decide +kernel
theorem dX10_lead_137 : decode cX10_lead 137 = .ok (.iadd, 1) := by decide +kernel
theorem dX10_lead_138 : decode cX10_lead 138 = .ok (.iaload, 1) := by decide +kernel
theorem dX10_lead_139 : decode cX10_lead 139 = .ok (.goto 4, 3) := by decide +kernel
theorem dX10_lead_142 : decode cX10_lead 142 = .ok (.iconst 0, 1) := by decide +kernel
theorem dX10_lead_143 : decode cX10_lead 143 = .ok (.ior, 1) := by decide +kernel
theorem dX10_lead_144 : decode cX10_lead 144 = .ok (.iastore, 1) := by decide +kernel
theorem dX10_lead_145 : decode cX10_lead 145 = .ok (.iinc 6 1, 3) := by decide +kernel
theorem dX10_lead_148 : decode cX10_lead 148 = .ok (.goto (-81), 3) := by decide +kernel
theorem dX10_lead_151 : decode cX10_lead 151 = .ok (.aload_n 0, 1) := by decide +kernel
theorem dX10_lead_152 : decode cX10_lead 152 = .ok (.invokevirtual 92, 3) := by decide +kernel
theorem dX10_lead_155 : decode cX10_lead 155 = .ok (.iload_n 3, 1) := by decide +kernel
theorem dX10_lead_156 : decode cX10_lead 156 = .ok (.isub, 1) := by decide +kernel
theorem dX10_lead_157 : decode cX10_lead 157 = .ok (.ireturn, 1) := by decide +kernel
set_option maxRecDepth 20000 in
theorem ggX10_learn_X10_noStage : GoodIn wsX10_learn wsX10_noStage := goodIn_r _ [6, 1, 7, 8, 5, 9, 24, 25, 26, 27, 28, 29, 30, 31, 32, 33, 34, 35, 36, 37, 38, 39, 40, 41, 42, 43, 44, 45, 46, 47, 48] (by decide +kernel) (by decide +kernel)
set_option maxRecDepth 20000 in
theorem gX10_learn_X10_noStage : GoodIn wsX10_learn (wsV RX10 86 RX10 yX10_noStage wsX10_noStage) := goodIn_app (goodIn_of _ (by decide +kernel)) ggX10_learn_X10_noStage
set_option maxRecDepth 20000 in
theorem ggX10_learn_X10_in : GoodIn wsX10_learn wsX10_in := goodIn_r _ [9] (by decide +kernel) (by decide +kernel)
set_option maxRecDepth 20000 in
theorem gX10_learn_X10_in : GoodIn wsX10_learn (va_wsS RX10 66 yX10_in wsX10_in) := goodIn_app (goodIn_of _ (by decide +kernel)) ggX10_learn_X10_in
set_option maxRecDepth 20000 in
theorem ggX10_learn_X10_record : GoodIn wsX10_learn wsX10_record := goodIn_r _ [13, 14, 15, 1, 24, 25, 26, 27, 28, 29, 30, 31, 32, 33, 34, 35, 36, 37, 38, 39, 40, 41, 42, 43, 44, 45, 46, 47, 48] (by decide +kernel) (by decide +kernel)
set_option maxRecDepth 20000 in
theorem gX10_learn_X10_record : GoodIn wsX10_learn (wsV RX10 89 RX10 yX10_record wsX10_record) := goodIn_app (goodIn_of _ (by decide +kernel)) ggX10_learn_X10_record
set_option maxRecDepth 20000 in
theorem ggX10_learn_X10_leadsTo : GoodIn wsX10_learn wsX10_leadsTo := goodIn_r _ [19, 1, 24, 25, 26, 27, 28, 29, 30, 31, 32, 33, 34, 35, 36, 37, 38, 39, 40, 41, 42, 43, 44, 45, 46, 47, 48] (by decide +kernel) (by decide +kernel)
set_option maxRecDepth 20000 in
theorem gX10_learn_X10_leadsTo : GoodIn wsX10_learn (wsV RX10 78 RX10 yX10_leadsTo wsX10_leadsTo) := goodIn_app (goodIn_of _ (by decide +kernel)) ggX10_learn_X10_leadsTo
set_option maxRecDepth 20000 in
theorem ggX10_learn_X10_knownAt : GoodIn wsX10_learn wsX10_knownAt := goodIn_r _ [23, 1, 24, 25, 26, 27, 28, 29, 30, 31, 32, 33, 34, 35, 36, 37, 38, 39, 40, 41, 42, 43, 44, 45, 46, 47, 48] (by decide +kernel) (by decide +kernel)
set_option maxRecDepth 20000 in
theorem gX10_learn_X10_knownAt : GoodIn wsX10_learn (wsV RX10 99 RX10 yX10_knownAt wsX10_knownAt) := goodIn_app (goodIn_of _ (by decide +kernel)) ggX10_learn_X10_knownAt
theorem dX10_learn_0 : decode cX10_learn 0 = .ok (.aload_n 0, 1) := by decide +kernel
theorem dX10_learn_1 : decode cX10_learn 1 = .ok (.iload_n 1, 1) := by decide +kernel
theorem dX10_learn_2 : decode cX10_learn 2 = .ok (.invokevirtual 86, 3) := by decide +kernel
theorem dX10_learn_5 : decode cX10_learn 5 = .ok (.ifCond .ne 12, 3) := by decide +kernel
theorem dX10_learn_8 : decode cX10_learn 8 = .ok (.iload_n 2, 1) := by decide +kernel
theorem dX10_learn_9 : decode cX10_learn 9 = .ok (.iconst 0, 1) := by decide +kernel
theorem dX10_learn_10 : decode cX10_learn 10 = .ok (.iconst 3, 1) := by decide +kernel
theorem dX10_learn_11 : decode cX10_learn 11 = .ok (.invokestatic 66, 3) := by decide +kernel
theorem dX10_learn_14 : decode cX10_learn 14 = .ok (.ifCond .ne 5, 3) := by decide +kernel
theorem dX10_learn_17 : decode cX10_learn 17 = .ok (.iconst (-1), 1) := by decide +kernel
theorem dX10_learn_18 : decode cX10_learn 18 = .ok (.ireturn, 1) := by decide +kernel
theorem dX10_learn_19 : decode cX10_learn 19 = .ok (.aload_n 0, 1) := by decide +kernel
theorem dX10_learn_20 : decode cX10_learn 20 = .ok (.getfield 7, 3) := by decide +kernel
theorem dX10_learn_23 : decode cX10_learn 23 = .ok (.bipush 8, 2) := by decide +kernel
theorem dX10_learn_25 : decode cX10_learn 25 = .ok (.iload_n 1, 1) := by decide +kernel
theorem dX10_learn_26 : decode cX10_learn 26 = .ok (.iadd, 1) := by decide +kernel
theorem dX10_learn_27 : decode cX10_learn 27 = .ok (.iaload, 1) := by decide +kernel
theorem dX10_learn_28 : decode cX10_learn 28 = .ok (.iload_n 2, 1) := by decide +kernel
theorem dX10_learn_29 : decode cX10_learn 29 = .ok (.ishr, 1) := by decide +kernel
theorem dX10_learn_30 : decode cX10_learn 30 = .ok (.iconst 1, 1) := by decide +kernel
theorem dX10_learn_31 : decode cX10_learn 31 = .ok (.iand, 1) := by decide +kernel
theorem dX10_learn_32 : decode cX10_learn 32 = .ok (.iconst 1, 1) := by decide +kernel
theorem dX10_learn_33 : decode cX10_learn 33 = .ok (.if_icmp .ne 6, 3) := by decide +kernel
theorem dX10_learn_36 : decode cX10_learn 36 = .ok (.bipush (-5), 2) := by decide +kernel
theorem dX10_learn_38 : decode cX10_learn 38 = .ok (.ireturn, 1) := by decide +kernel
theorem dX10_learn_39 : decode cX10_learn 39 = .ok (.aload_n 0, 1) := by decide +kernel
theorem dX10_learn_40 : decode cX10_learn 40 = .ok (.invokevirtual 89, 3) := by decide +kernel
theorem dX10_learn_43 : decode cX10_learn 43 = .ok (.iconst 0, 1) := by decide +kernel
theorem dX10_learn_44 : decode cX10_learn 44 = .ok (.istore_n 3, 1) := by decide +kernel
theorem dX10_learn_45 : decode cX10_learn 45 = .ok (.iload_n 3, 1) := by decide +kernel
theorem dX10_learn_46 : decode cX10_learn 46 = .ok (.aload_n 0, 1) := by decide +kernel
theorem dX10_learn_47 : decode cX10_learn 47 = .ok (.getfield 7, 3) := by decide +kernel
theorem dX10_learn_50 : decode cX10_learn 50 = .ok (.bipush 16, 2) := by decide +kernel
theorem dX10_learn_52 : decode cX10_learn 52 = .ok (.iaload, 1) := by decide +kernel
theorem dX10_learn_53 : decode cX10_learn 53 = .ok (.if_icmp .ge 37, 3) := by decide +kernel
theorem dX10_learn_56 : decode cX10_learn 56 = .ok (.aload_n 0, 1) := by decide +kernel
theorem dX10_learn_57 : decode cX10_learn 57 = .ok (.getfield 7, 3) := by decide +kernel
theorem dX10_learn_60 : decode cX10_learn 60 = .ok (.bipush 8, 2) := by decide +kernel
theorem dX10_learn_62 : decode cX10_learn 62 = .ok (.iload_n 3, 1) := by decide +kernel
theorem dX10_learn_63 : decode cX10_learn 63 = .ok (.iadd, 1) := by decide +kernel
theorem dX10_learn_64 : decode cX10_learn 64 = .ok (.dup2, 1) := by decide +kernel
theorem dX10_learn_65 : decode cX10_learn 65 = .ok (.iaload, 1) := by decide +kernel
theorem dX10_learn_66 : decode cX10_learn 66 = .ok (.aload_n 0, 1) := by decide +kernel
theorem dX10_learn_67 : decode cX10_learn 67 = .ok (.iload_n 1, 1) := by decide +kernel
theorem dX10_learn_68 : decode cX10_learn 68 = .ok (.iload_n 3, 1) := by decide +kernel
theorem dX10_learn_69 : decode cX10_learn 69 = .ok (.invokevirtual 78, 3) := by decide +kernel
theorem dX10_learn_72 : decode cX10_learn 72 = .ok (.ifCond .eq 9, 3) := by decide +kernel
theorem dX10_learn_75 : decode cX10_learn 75 = .ok (.iconst 1, 1) := by decide +kernel
theorem dX10_learn_76 : decode cX10_learn 76 = .ok (.iload_n 2, 1) := by decide +kernel
theorem dX10_learn_77 : decode cX10_learn 77 = .ok (.ishl, 1) := by decide +kernel
theorem dX10_learn_78 : decode cX10_learn 78 = .ok (.goto 4, 3) := by decide +kernel
theorem dX10_learn_81 : decode cX10_learn 81 = .ok (.iconst 0, 1) := by decide +kernel
theorem dX10_learn_82 : decode cX10_learn 82 = .ok (.ior, 1) := by decide +kernel
theorem dX10_learn_83 : decode cX10_learn 83 = .ok (.iastore, 1) := by decide +kernel
theorem dX10_learn_84 : decode cX10_learn 84 = .ok (.iinc 3 1, 3) := by decide +kernel
theorem dX10_learn_87 : decode cX10_learn 87 = .ok (.goto (-42), 3) := by decide +kernel
theorem dX10_learn_90 : decode cX10_learn 90 = .ok (.aload_n 0, 1) := by decide +kernel
theorem dX10_learn_91 : decode cX10_learn 91 = .ok (.iload_n 2, 1) := by decide +kernel
theorem dX10_learn_92 : decode cX10_learn 92 = .ok (.invokevirtual 99, 3) := by decide +kernel
theorem dX10_learn_95 : decode cX10_learn 95 = .ok (.ireturn, 1) := by decide +kernel
set_option maxRecDepth 20000 in
theorem ggX10_forget_X10_noStage : GoodIn wsX10_forget wsX10_noStage := goodIn_r _ [6, 1, 7, 8, 5, 9, 24, 25, 26, 27, 28, 29, 30, 31, 32, 33, 34, 35, 36, 37, 38, 39, 40, 41, 42, 43, 44, 45, 46, 47, 48] (by decide +kernel) (by decide +kernel)
set_option maxRecDepth 20000 in
theorem gX10_forget_X10_noStage : GoodIn wsX10_forget (wsV RX10 86 RX10 yX10_noStage wsX10_noStage) := goodIn_app (goodIn_of _ (by decide +kernel)) ggX10_forget_X10_noStage
set_option maxRecDepth 20000 in
theorem ggX10_forget_X10_in : GoodIn wsX10_forget wsX10_in := goodIn_r _ [9] (by decide +kernel) (by decide +kernel)
set_option maxRecDepth 20000 in
theorem gX10_forget_X10_in : GoodIn wsX10_forget (va_wsS RX10 66 yX10_in wsX10_in) := goodIn_app (goodIn_of _ (by decide +kernel)) ggX10_forget_X10_in
set_option maxRecDepth 20000 in
theorem ggX10_forget_X10_record : GoodIn wsX10_forget wsX10_record := goodIn_r _ [13, 14, 15, 1, 24, 25, 26, 27, 28, 29, 30, 31, 32, 33, 34, 35, 36, 37, 38, 39, 40, 41, 42, 43, 44, 45, 46, 47, 48] (by decide +kernel) (by decide +kernel)
set_option maxRecDepth 20000 in
theorem gX10_forget_X10_record : GoodIn wsX10_forget (wsV RX10 89 RX10 yX10_record wsX10_record) := goodIn_app (goodIn_of _ (by decide +kernel)) ggX10_forget_X10_record
set_option maxRecDepth 20000 in
theorem ggX10_forget_X10_leadsTo : GoodIn wsX10_forget wsX10_leadsTo := goodIn_r _ [19, 1, 24, 25, 26, 27, 28, 29, 30, 31, 32, 33, 34, 35, 36, 37, 38, 39, 40, 41, 42, 43, 44, 45, 46, 47, 48] (by decide +kernel) (by decide +kernel)
set_option maxRecDepth 20000 in
theorem gX10_forget_X10_leadsTo : GoodIn wsX10_forget (wsV RX10 78 RX10 yX10_leadsTo wsX10_leadsTo) := goodIn_app (goodIn_of _ (by decide +kernel)) ggX10_forget_X10_leadsTo
set_option maxRecDepth 20000 in
theorem ggX10_forget_X10_knownAt : GoodIn wsX10_forget wsX10_knownAt := goodIn_r _ [23, 1, 24, 25, 26, 27, 28, 29, 30, 31, 32, 33, 34, 35, 36, 37, 38, 39, 40, 41, 42, 43, 44, 45, 46, 47, 48] (by decide +kernel) (by decide +kernel)
set_option maxRecDepth 20000 in
theorem gX10_forget_X10_knownAt : GoodIn wsX10_forget (wsV RX10 99 RX10 yX10_knownAt wsX10_knownAt) := goodIn_app (goodIn_of _ (by decide +kernel)) ggX10_forget_X10_knownAt
theorem dX10_forget_0 : decode cX10_forget 0 = .ok (.aload_n 0, 1) := by decide +kernel
theorem dX10_forget_1 : decode cX10_forget 1 = .ok (.iload_n 1, 1) := by decide +kernel
theorem dX10_forget_2 : decode cX10_forget 2 = .ok (.invokevirtual 86, 3) := by decide +kernel
theorem dX10_forget_5 : decode cX10_forget 5 = .ok (.ifCond .ne 12, 3) := by decide +kernel
theorem dX10_forget_8 : decode cX10_forget 8 = .ok (.iload_n 2, 1) := by decide +kernel
theorem dX10_forget_9 : decode cX10_forget 9 = .ok (.iconst 0, 1) := by decide +kernel
theorem dX10_forget_10 : decode cX10_forget 10 = .ok (.iconst 3, 1) := by decide +kernel
theorem dX10_forget_11 : decode cX10_forget 11 = .ok (.invokestatic 66, 3) := by decide +kernel
theorem dX10_forget_14 : decode cX10_forget 14 = .ok (.ifCond .ne 5, 3) := by decide +kernel
theorem dX10_forget_17 : decode cX10_forget 17 = .ok (.iconst (-1), 1) := by decide +kernel
theorem dX10_forget_18 : decode cX10_forget 18 = .ok (.ireturn, 1) := by decide +kernel
theorem dX10_forget_19 : decode cX10_forget 19 = .ok (.aload_n 0, 1) := by decide +kernel
theorem dX10_forget_20 : decode cX10_forget 20 = .ok (.getfield 7, 3) := by decide +kernel
theorem dX10_forget_23 : decode cX10_forget 23 = .ok (.bipush 8, 2) := by decide +kernel
theorem dX10_forget_25 : decode cX10_forget 25 = .ok (.iload_n 1, 1) := by decide +kernel
theorem dX10_forget_26 : decode cX10_forget 26 = .ok (.iadd, 1) := by decide +kernel
theorem dX10_forget_27 : decode cX10_forget 27 = .ok (.iaload, 1) := by decide +kernel
theorem dX10_forget_28 : decode cX10_forget 28 = .ok (.iload_n 2, 1) := by decide +kernel
theorem dX10_forget_29 : decode cX10_forget 29 = .ok (.ishr, 1) := by decide +kernel
theorem dX10_forget_30 : decode cX10_forget 30 = .ok (.iconst 1, 1) := by decide +kernel
theorem dX10_forget_31 : decode cX10_forget 31 = .ok (.iand, 1) := by decide +kernel
theorem dX10_forget_32 : decode cX10_forget 32 = .ok (.ifCond .ne 6, 3) := by decide +kernel
theorem dX10_forget_35 : decode cX10_forget 35 = .ok (.bipush (-5), 2) := by decide +kernel
theorem dX10_forget_37 : decode cX10_forget 37 = .ok (.ireturn, 1) := by decide +kernel
theorem dX10_forget_38 : decode cX10_forget 38 = .ok (.aload_n 0, 1) := by decide +kernel
theorem dX10_forget_39 : decode cX10_forget 39 = .ok (.invokevirtual 89, 3) := by decide +kernel
theorem dX10_forget_42 : decode cX10_forget 42 = .ok (.iconst 0, 1) := by decide +kernel
theorem dX10_forget_43 : decode cX10_forget 43 = .ok (.istore_n 3, 1) := by decide +kernel
theorem dX10_forget_44 : decode cX10_forget 44 = .ok (.iload_n 3, 1) := by decide +kernel
theorem dX10_forget_45 : decode cX10_forget 45 = .ok (.aload_n 0, 1) := by decide +kernel
theorem dX10_forget_46 : decode cX10_forget 46 = .ok (.getfield 7, 3) := by decide +kernel
theorem dX10_forget_49 : decode cX10_forget 49 = .ok (.bipush 16, 2) := by decide +kernel
theorem dX10_forget_51 : decode cX10_forget 51 = .ok (.iaload, 1) := by decide +kernel
theorem dX10_forget_52 : decode cX10_forget 52 = .ok (.if_icmp .ge 40, 3) := by decide +kernel
theorem dX10_forget_55 : decode cX10_forget 55 = .ok (.aload_n 0, 1) := by decide +kernel
theorem dX10_forget_56 : decode cX10_forget 56 = .ok (.getfield 7, 3) := by decide +kernel
theorem dX10_forget_59 : decode cX10_forget 59 = .ok (.bipush 8, 2) := by decide +kernel
theorem dX10_forget_61 : decode cX10_forget 61 = .ok (.iload_n 3, 1) := by decide +kernel
theorem dX10_forget_62 : decode cX10_forget 62 = .ok (.iadd, 1) := by decide +kernel
theorem dX10_forget_63 : decode cX10_forget 63 = .ok (.dup2, 1) := by decide +kernel
theorem dX10_forget_64 : decode cX10_forget 64 = .ok (.iaload, 1) := by decide +kernel
theorem dX10_forget_65 : decode cX10_forget 65 = .ok (.aload_n 0, 1) := by decide +kernel
theorem dX10_forget_66 : decode cX10_forget 66 = .ok (.iload_n 3, 1) := by decide +kernel
theorem dX10_forget_67 : decode cX10_forget 67 = .ok (.iload_n 1, 1) := by decide +kernel
theorem dX10_forget_68 : decode cX10_forget 68 = .ok (.invokevirtual 78, 3) := by decide +kernel
theorem dX10_forget_71 : decode cX10_forget 71 = .ok (.ifCond .eq 11, 3) := by decide +kernel
theorem dX10_forget_74 : decode cX10_forget 74 = .ok (.iconst 1, 1) := by decide +kernel
theorem dX10_forget_75 : decode cX10_forget 75 = .ok (.iload_n 2, 1) := by decide +kernel
theorem dX10_forget_76 : decode cX10_forget 76 = .ok (.ishl, 1) := by decide +kernel
theorem dX10_forget_77 : decode cX10_forget 77 = .ok (.iconst (-1), 1) := by decide +kernel
theorem dX10_forget_78 : decode cX10_forget 78 = .ok (.ixor, 1) := by decide +kernel
theorem dX10_forget_79 : decode cX10_forget 79 = .ok (.goto 5, 3) := by decide +kernel
theorem dX10_forget_82 : decode cX10_forget 82 = .ok (.bipush 15, 2) := by decide +kernel
theorem dX10_forget_84 : decode cX10_forget 84 = .ok (.iand, 1) := by decide +kernel
theorem dX10_forget_85 : decode cX10_forget 85 = .ok (.iastore, 1) := by decide +kernel
theorem dX10_forget_86 : decode cX10_forget 86 = .ok (.iinc 3 1, 3) := by decide +kernel
theorem dX10_forget_89 : decode cX10_forget 89 = .ok (.goto (-45), 3) := by decide +kernel
theorem dX10_forget_92 : decode cX10_forget 92 = .ok (.aload_n 0, 1) := by decide +kernel
theorem dX10_forget_93 : decode cX10_forget 93 = .ok (.iload_n 2, 1) := by decide +kernel
theorem dX10_forget_94 : decode cX10_forget 94 = .ok (.invokevirtual 99, 3) := by decide +kernel
theorem dX10_forget_97 : decode cX10_forget 97 = .ok (.ireturn, 1) := by decide +kernel
theorem dX10_without_0 : decode cX10_without 0 = .ok (.iconst 1, 1) := by decide +kernel
theorem dX10_without_1 : decode cX10_without 1 = .ok (.iload_n 1, 1) := by decide +kernel
theorem dX10_without_2 : decode cX10_without 2 = .ok (.ishl, 1) := by decide +kernel
theorem dX10_without_3 : decode cX10_without 3 = .ok (.iconst 1, 1) := by decide +kernel
theorem dX10_without_4 : decode cX10_without 4 = .ok (.isub, 1) := by decide +kernel
theorem dX10_without_5 : decode cX10_without 5 = .ok (.istore_n 2, 1) := by decide +kernel
theorem dX10_without_6 : decode cX10_without 6 = .ok (.iload_n 0, 1) := by decide +kernel
theorem dX10_without_7 : decode cX10_without 7 = .ok (.iload_n 2, 1) := by decide +kernel
theorem dX10_without_8 : decode cX10_without 8 = .ok (.iand, 1) := by decide +kernel
theorem dX10_without_9 : decode cX10_without 9 = .ok (.iload_n 0, 1) := by decide +kernel
theorem dX10_without_10 : decode cX10_without 10 = .ok (.iconst 1, 1) := by decide +kernel
theorem dX10_without_11 : decode cX10_without 11 = .ok (.ishr, 1) := by decide +kernel
theorem dX10_without_12 : decode cX10_without 12 = .ok (.iload_n 2, 1) := by decide +kernel
theorem dX10_without_13 : decode cX10_without 13 = .ok (.iconst (-1), 1) := by decide +kernel
theorem dX10_without_14 : decode cX10_without 14 = .ok (.ixor, 1) := by decide +kernel
theorem dX10_without_15 : decode cX10_without 15 = .ok (.iand, 1) := by decide +kernel
theorem dX10_without_16 : decode cX10_without 16 = .ok (.ior, 1) := by decide +kernel
theorem dX10_without_17 : decode cX10_without 17 = .ok (.ireturn, 1) := by decide +kernel
set_option maxRecDepth 20000 in
theorem ggX10_removes_X10_without : GoodIn wsX10_removes wsX10_without := goodIn_r _ [5] (by decide +kernel) (by decide +kernel)
set_option maxRecDepth 20000 in
theorem gX10_removes_X10_without : GoodIn wsX10_removes (va_wsS RX10 102 yX10_without wsX10_without) := goodIn_app (goodIn_of _ (by decide +kernel)) ggX10_removes_X10_without
theorem dX10_removes_0 : decode cX10_removes 0 = .ok (.aload_n 0, 1) := by decide +kernel
theorem dX10_removes_1 : decode cX10_removes 1 = .ok (.getfield 7, 3) := by decide +kernel
theorem dX10_removes_4 : decode cX10_removes 4 = .ok (.bipush 16, 2) := by decide +kernel
theorem dX10_removes_6 : decode cX10_removes 6 = .ok (.iaload, 1) := by decide +kernel
theorem dX10_removes_7 : decode cX10_removes 7 = .ok (.istore_n 2, 1) := by decide +kernel
theorem dX10_removes_8 : decode cX10_removes 8 = .ok (.iconst 0, 1) := by decide +kernel
theorem dX10_removes_9 : decode cX10_removes 9 = .ok (.istore_n 3, 1) := by decide +kernel
theorem dX10_removes_10 : decode cX10_removes 10 = .ok (.iload_n 3, 1) := by decide +kernel
theorem dX10_removes_11 : decode cX10_removes 11 = .ok (.iload_n 2, 1) := by decide +kernel
theorem dX10_removes_12 : decode cX10_removes 12 = .ok (.if_icmp .ge 29, 3) := by decide +kernel
theorem dX10_removes_15 : decode cX10_removes 15 = .ok (.aload_n 0, 1) := by decide +kernel
theorem dX10_removes_16 : decode cX10_removes 16 = .ok (.getfield 7, 3) := by decide +kernel
theorem dX10_removes_19 : decode cX10_removes 19 = .ok (.iconst 0, 1) := by decide +kernel
theorem dX10_removes_20 : decode cX10_removes 20 = .ok (.iload_n 3, 1) := by decide +kernel
theorem dX10_removes_21 : decode cX10_removes 21 = .ok (.iadd, 1) := by decide +kernel
theorem dX10_removes_22 : decode cX10_removes 22 = .ok (.aload_n 0, 1) := by decide +kernel
theorem dX10_removes_23 : decode cX10_removes 23 = .ok (.getfield 7, 3) := by decide +kernel
theorem dX10_removes_26 : decode cX10_removes 26 = .ok (.iconst 0, 1) := by decide +kernel
theorem dX10_removes_27 : decode cX10_removes 27 = .ok (.iload_n 3, 1) := by decide +kernel
theorem dX10_removes_28 : decode cX10_removes 28 = .ok (.iadd, 1) := by decide +kernel
theorem dX10_removes_29 : decode cX10_removes 29 = .ok (.iaload, 1) := by decide +kernel
theorem dX10_removes_30 : decode cX10_removes 30 = .ok (.iload_n 1, 1) := by decide +kernel
theorem dX10_removes_31 : decode cX10_removes 31 = .ok (.invokestatic 102, 3) := by decide +kernel
theorem dX10_removes_34 : decode cX10_removes 34 = .ok (.iastore, 1) := by decide +kernel
theorem dX10_removes_35 : decode cX10_removes 35 = .ok (.iinc 3 1, 3) := by decide +kernel
theorem dX10_removes_38 : decode cX10_removes 38 = .ok (.goto (-28), 3) := by decide +kernel
theorem dX10_removes_41 : decode cX10_removes 41 = .ok (.iload_n 1, 1) := by decide +kernel
theorem dX10_removes_42 : decode cX10_removes 42 = .ok (.istore_n 3, 1) := by decide +kernel
theorem dX10_removes_43 : decode cX10_removes 43 = .ok (.iload_n 3, 1) := by decide +kernel
theorem dX10_removes_44 : decode cX10_removes 44 = .ok (.iload_n 2, 1) := by decide +kernel
theorem dX10_removes_45 : decode cX10_removes 45 = .ok (.iconst 1, 1) := by decide +kernel
theorem dX10_removes_46 : decode cX10_removes 46 = .ok (.isub, 1) := by decide +kernel
theorem dX10_removes_47 : decode cX10_removes 47 = .ok (.if_icmp .ge 47, 3) := by decide +kernel
theorem dX10_removes_50 : decode cX10_removes 50 = .ok (.aload_n 0, 1) := by decide +kernel
theorem dX10_removes_51 : decode cX10_removes 51 = .ok (.getfield 7, 3) := by decide +kernel
theorem dX10_removes_54 : decode cX10_removes 54 = .ok (.iconst 0, 1) := by decide +kernel
theorem dX10_removes_55 : decode cX10_removes 55 = .ok (.iload_n 3, 1) := by decide +kernel
theorem dX10_removes_56 : decode cX10_removes 56 = .ok (.iadd, 1) := by decide +kernel
theorem dX10_removes_57 : decode cX10_removes 57 = .ok (.aload_n 0, 1) := by decide +kernel
theorem dX10_removes_58 : decode cX10_removes 58 = .ok (.getfield 7, 3) := by decide +kernel
theorem dX10_removes_61 : decode cX10_removes 61 = .ok (.iconst 0, 1) := by decide +kernel
theorem dX10_removes_62 : decode cX10_removes 62 = .ok (.iload_n 3, 1) := by decide +kernel
theorem dX10_removes_63 : decode cX10_removes 63 = .ok (.iadd, 1) := by decide +kernel
theorem dX10_removes_64 : decode cX10_removes 64 = .ok (.iconst 1, 1) := by decide +kernel
theorem dX10_removes_65 : decode cX10_removes 65 = .ok (.iadd, 1) := by decide +kernel
theorem dX10_removes_66 : decode cX10_removes 66 = .ok (.iaload, 1) := by decide +kernel
theorem dX10_removes_67 : decode cX10_removes 67 = .ok (.iastore, 1) := by decide +kernel
theorem dX10_removes_68 : decode cX10_removes 68 = .ok (.aload_n 0, 1) := by decide +kernel
theorem dX10_removes_69 : decode cX10_removes 69 = .ok (.getfield 7, 3) := by decide +kernel
theorem dX10_removes_72 : decode cX10_removes 72 = .ok (.bipush 8, 2) := by decide +kernel
theorem dX10_removes_74 : decode cX10_removes 74 = .ok (.iload_n 3, 1) := by decide +kernel
theorem dX10_removes_75 : decode cX10_removes 75 = .ok (.iadd, 1) := by decide +kernel
theorem dX10_removes_76 : decode cX10_removes 76 = .ok (.aload_n 0, 1) := by decide +kernel
theorem dX10_removes_77 : decode cX10_removes 77 = .ok (.getfield 7, 3) := by decide +kernel
theorem dX10_removes_80 : decode cX10_removes 80 = .ok (.bipush 8, 2) := by decide +kernel
theorem dX10_removes_82 : decode cX10_removes 82 = .ok (.iload_n 3, 1) := by decide +kernel
theorem dX10_removes_83 : decode cX10_removes 83 = .ok (.iadd, 1) := by decide +kernel
theorem dX10_removes_84 : decode cX10_removes 84 = .ok (.iconst 1, 1) := by decide +kernel
theorem dX10_removes_85 : decode cX10_removes 85 = .ok (.iadd, 1) := by decide +kernel
theorem dX10_removes_86 : decode cX10_removes 86 = .ok (.iaload, 1) := by decide +kernel
theorem dX10_removes_87 : decode cX10_removes 87 = .ok (.iastore, 1) := by decide +kernel
theorem dX10_removes_88 : decode cX10_removes 88 = .ok (.iinc 3 1, 3) := by decide +kernel
theorem dX10_removes_91 : decode cX10_removes 91 = .ok (.goto (-48), 3) := by decide +kernel
theorem dX10_removes_94 : decode cX10_removes 94 = .ok (.aload_n 0, 1) := by decide +kernel
theorem dX10_removes_95 : decode cX10_removes 95 = .ok (.getfield 7, 3) := by decide +kernel
theorem dX10_removes_98 : decode cX10_removes 98 = .ok (.bipush 16, 2) := by decide +kernel
theorem dX10_removes_100 : decode cX10_removes 100 = .ok (.dup2, 1) := by decide +kernel
theorem dX10_removes_101 : decode cX10_removes 101 = .ok (.iaload, 1) := by decide +kernel
theorem dX10_removes_102 : decode cX10_removes 102 = .ok (.iconst 1, 1) := by decide +kernel
theorem dX10_removes_103 : decode cX10_removes 103 = .ok (.isub, 1) := by decide +kernel
theorem dX10_removes_104 : decode cX10_removes 104 = .ok (.iastore, 1) := by decide +kernel
theorem dX10_removes_105 : decode cX10_removes 105 = .ok (.return_, 1) := by decide +kernel
set_option maxRecDepth 20000 in
theorem ggX10_removeStage_X10_noStage : GoodIn wsX10_removeStage wsX10_noStage := goodIn_r _ [6, 1, 7, 8, 5, 9, 23, 24, 25, 26, 27, 28, 29, 30, 31, 32, 33, 34, 35, 36, 37, 38, 39, 40, 41, 42, 43, 44, 45, 46, 47] (by decide +kernel) (by decide +kernel)
set_option maxRecDepth 20000 in
theorem gX10_removeStage_X10_noStage : GoodIn wsX10_removeStage (wsV RX10 86 RX10 yX10_noStage wsX10_noStage) := goodIn_app (goodIn_of _ (by decide +kernel)) ggX10_removeStage_X10_noStage
set_option maxRecDepth 20000 in
theorem ggX10_removeStage_X10_record : GoodIn wsX10_removeStage wsX10_record := goodIn_r _ [13, 14, 15, 1, 23, 24, 25, 26, 27, 28, 29, 30, 31, 32, 33, 34, 35, 36, 37, 38, 39, 40, 41, 42, 43, 44, 45, 46, 47] (by decide +kernel) (by decide +kernel)
set_option maxRecDepth 20000 in
theorem gX10_removeStage_X10_record : GoodIn wsX10_removeStage (wsV RX10 89 RX10 yX10_record wsX10_record) := goodIn_app (goodIn_of _ (by decide +kernel)) ggX10_removeStage_X10_record
set_option maxRecDepth 20000 in
theorem ggX10_removeStage_X10_removes : GoodIn wsX10_removeStage wsX10_removes := goodIn_r _ [19, 1, 20, 21, 5, 22, 23, 24, 25, 26, 27, 28, 29, 30, 31, 32, 33, 34, 35, 36, 37, 38, 39, 40, 41, 42, 43, 44, 45, 46, 47] (by decide +kernel) (by decide +kernel)
set_option maxRecDepth 20000 in
theorem gX10_removeStage_X10_removes : GoodIn wsX10_removeStage (wsV RX10 106 RX10 yX10_removes wsX10_removes) := goodIn_app (goodIn_of _ (by decide +kernel)) ggX10_removeStage_X10_removes
theorem dX10_removeStage_0 : decode cX10_removeStage 0 = .ok (.aload_n 0, 1) := by decide +kernel
theorem dX10_removeStage_1 : decode cX10_removeStage 1 = .ok (.iload_n 1, 1) := by decide +kernel
theorem dX10_removeStage_2 : decode cX10_removeStage 2 = .ok (.invokevirtual 86, 3) := by decide +kernel
theorem dX10_removeStage_5 : decode cX10_removeStage 5 = .ok (.ifCond .eq 5, 3) := by decide +kernel
theorem dX10_removeStage_8 : decode cX10_removeStage 8 = .ok (.iconst (-1), 1) := by decide +kernel
theorem dX10_removeStage_9 : decode cX10_removeStage 9 = .ok (.ireturn, 1) := by decide +kernel
theorem dX10_removeStage_10 : decode cX10_removeStage 10 = .ok (.aload_n 0, 1) := by decide +kernel
theorem dX10_removeStage_11 : decode cX10_removeStage 11 = .ok (.getfield 7, 3) := by decide +kernel
theorem dX10_removeStage_14 : decode cX10_removeStage 14 = .ok (.bipush 16, 2) := by decide +kernel
theorem dX10_removeStage_16 : decode cX10_removeStage 16 = .ok (.iaload, 1) := by decide +kernel
theorem dX10_removeStage_17 : decode cX10_removeStage 17 = .ok (.iconst 1, 1) := by decide +kernel
theorem dX10_removeStage_18 : decode cX10_removeStage 18 = .ok (.if_icmp .ne 6, 3) := by decide +kernel
theorem dX10_removeStage_21 : decode cX10_removeStage 21 = .ok (.bipush (-4), 2) := by decide +kernel
theorem dX10_removeStage_23 : decode cX10_removeStage 23 = .ok (.ireturn, 1) := by decide +kernel
theorem dX10_removeStage_24 : decode cX10_removeStage 24 = .ok (.aload_n 0, 1) := by decide +kernel
theorem dX10_removeStage_25 : decode cX10_removeStage 25 = .ok (.invokevirtual 89, 3) := by decide +kernel
theorem dX10_removeStage_28 : decode cX10_removeStage 28 = .ok (.aload_n 0, 1) := by decide +kernel
theorem dX10_removeStage_29 : decode cX10_removeStage 29 = .ok (.iload_n 1, 1) := by decide +kernel
theorem dX10_removeStage_30 : decode cX10_removeStage 30 = .ok (.invokevirtual 106, 3) := by decide +kernel
theorem dX10_removeStage_33 : decode cX10_removeStage 33 = .ok (.aload_n 0, 1) := by decide +kernel
theorem dX10_removeStage_34 : decode cX10_removeStage 34 = .ok (.getfield 7, 3) := by decide +kernel
theorem dX10_removeStage_37 : decode cX10_removeStage 37 = .ok (.bipush 16, 2) := by decide +kernel
theorem dX10_removeStage_39 : decode cX10_removeStage 39 = .ok (.iaload, 1) := by decide +kernel
theorem dX10_removeStage_40 : decode cX10_removeStage 40 = .ok (.ireturn, 1) := by decide +kernel
set_option maxRecDepth 20000 in
theorem ggX10_isMet_X10_leadsTo : GoodIn wsX10_isMet wsX10_leadsTo := goodIn_r _ [7, 1, 8, 9, 10, 11, 12, 13, 14, 15, 16, 17, 18, 19, 20, 21, 22, 23, 24, 25, 26, 27, 28, 29, 30, 31, 32] (by decide +kernel) (by decide +kernel)
set_option maxRecDepth 20000 in
theorem gX10_isMet_X10_leadsTo : GoodIn wsX10_isMet (wsV RX10 78 RX10 yX10_leadsTo wsX10_leadsTo) := goodIn_app (goodIn_of _ (by decide +kernel)) ggX10_isMet_X10_leadsTo
theorem dX10_isMet_0 : decode cX10_isMet 0 = .ok (.iconst 0, 1) := by decide +kernel
theorem dX10_isMet_1 : decode cX10_isMet 1 = .ok (.istore_n 3, 1) := by decide +kernel
theorem dX10_isMet_2 : decode cX10_isMet 2 = .ok (.iload_n 3, 1) := by decide +kernel
theorem dX10_isMet_3 : decode cX10_isMet 3 = .ok (.aload_n 0, 1) := by decide +kernel
theorem dX10_isMet_4 : decode cX10_isMet 4 = .ok (.getfield 7, 3) := by decide +kernel
theorem dX10_isMet_7 : decode cX10_isMet 7 = .ok (.bipush 16, 2) := by decide +kernel
theorem dX10_isMet_9 : decode cX10_isMet 9 = .ok (.iaload, 1) := by decide +kernel
theorem dX10_isMet_10 : decode cX10_isMet 10 = .ok (.if_icmp .ge 38, 3) := by decide +kernel
theorem dX10_isMet_13 : decode cX10_isMet 13 = .ok (.aload_n 0, 1) := by decide +kernel
theorem dX10_isMet_14 : decode cX10_isMet 14 = .ok (.iload_n 1, 1) := by decide +kernel
theorem dX10_isMet_15 : decode cX10_isMet 15 = .ok (.iload_n 3, 1) := by decide +kernel
theorem dX10_isMet_16 : decode cX10_isMet 16 = .ok (.invokevirtual 78, 3) := by decide +kernel
theorem dX10_isMet_19 : decode cX10_isMet 19 = .ok (.ifCond .eq 23, 3) := by decide +kernel
theorem dX10_isMet_22 : decode cX10_isMet 22 = .ok (.aload_n 0, 1) := by decide +kernel
theorem dX10_isMet_23 : decode cX10_isMet 23 = .ok (.getfield 19, 3) := by decide +kernel
theorem dX10_isMet_26 : decode cX10_isMet 26 = .ok (.iload_n 3, 1) := by decide +kernel
theorem dX10_isMet_27 : decode cX10_isMet 27 = .ok (.iaload, 1) := by decide +kernel
theorem dX10_isMet_28 : decode cX10_isMet 28 = .ok (.aload_n 0, 1) := by decide +kernel
theorem dX10_isMet_29 : decode cX10_isMet 29 = .ok (.getfield 7, 3) := by decide +kernel
theorem dX10_isMet_32 : decode cX10_isMet 32 = .ok (.iconst 0, 1) := by decide +kernel
theorem dX10_isMet_33 : decode cX10_isMet 33 = .ok (.iload_n 2, 1) := by decide +kernel
theorem dX10_isMet_34 : decode cX10_isMet 34 = .ok (.iadd, 1) := by decide +kernel
theorem dX10_isMet_35 : decode cX10_isMet 35 = .ok (.iaload, 1) := by decide +kernel
theorem dX10_isMet_36 : decode cX10_isMet 36 = .ok (.iand, 1) := by decide +kernel
theorem dX10_isMet_37 : decode cX10_isMet 37 = .ok (.ifCond .ne 5, 3) := by decide +kernel
theorem dX10_isMet_40 : decode cX10_isMet 40 = .ok (.iconst 0, 1) := by decide +kernel
theorem dX10_isMet_41 : decode cX10_isMet 41 = .ok (.ireturn, 1) := by decide +kernel
theorem dX10_isMet_42 : decode cX10_isMet 42 = .ok (.iinc 3 1, 3) := by decide +kernel
theorem dX10_isMet_45 : decode cX10_isMet 45 = .ok (.goto (-43), 3) := by decide +kernel
theorem dX10_isMet_48 : decode cX10_isMet 48 = .ok (.iconst 1, 1) := by decide +kernel
theorem dX10_isMet_49 : decode cX10_isMet 49 = .ok (.ireturn, 1) := by decide +kernel
set_option maxRecDepth 20000 in
theorem ggX10_findsLike_X10_isMet : GoodIn wsX10_findsLike wsX10_isMet := goodIn_r _ [7, 1, 2, 8, 9, 10, 6, 11, 12, 13, 14, 15, 16, 17, 18, 19, 20, 21, 22, 23, 24, 25, 26, 27, 28, 29, 30, 31, 32, 33, 34, 35, 36] (by decide +kernel) (by decide +kernel)
set_option maxRecDepth 20000 in
theorem gX10_findsLike_X10_isMet : GoodIn wsX10_findsLike (wsV RX10 110 RX10 yX10_isMet wsX10_isMet) := goodIn_app (goodIn_of _ (by decide +kernel)) ggX10_findsLike_X10_isMet
theorem dX10_findsLike_0 : decode cX10_findsLike 0 = .ok (.aload_n 0, 1) := by decide +kernel
theorem dX10_findsLike_1 : decode cX10_findsLike 1 = .ok (.getfield 7, 3) := by decide +kernel
theorem dX10_findsLike_4 : decode cX10_findsLike 4 = .ok (.bipush 16, 2) := by decide +kernel
theorem dX10_findsLike_6 : decode cX10_findsLike 6 = .ok (.iaload, 1) := by decide +kernel
theorem dX10_findsLike_7 : decode cX10_findsLike 7 = .ok (.istore_n 1, 1) := by decide +kernel
theorem dX10_findsLike_8 : decode cX10_findsLike 8 = .ok (.iconst 0, 1) := by decide +kernel
theorem dX10_findsLike_9 : decode cX10_findsLike 9 = .ok (.istore_n 2, 1) := by decide +kernel
theorem dX10_findsLike_10 : decode cX10_findsLike 10 = .ok (.iload_n 2, 1) := by decide +kernel
theorem dX10_findsLike_11 : decode cX10_findsLike 11 = .ok (.iload_n 1, 1) := by decide +kernel
theorem dX10_findsLike_12 : decode cX10_findsLike 12 = .ok (.if_icmp .ge 66, 3) := by decide +kernel
theorem dX10_findsLike_15 : decode cX10_findsLike 15 = .ok (.aload_n 0, 1) := by decide +kernel
theorem dX10_findsLike_16 : decode cX10_findsLike 16 = .ok (.getfield 19, 3) := by decide +kernel
theorem dX10_findsLike_19 : decode cX10_findsLike 19 = .ok (.iload_n 2, 1) := by decide +kernel
theorem dX10_findsLike_20 : decode cX10_findsLike 20 = .ok (.iconst 0, 1) := by decide +kernel
theorem dX10_findsLike_21 : decode cX10_findsLike 21 = .ok (.iastore, 1) := by decide +kernel
theorem dX10_findsLike_22 : decode cX10_findsLike 22 = .ok (.iconst 0, 1) := by decide +kernel
theorem dX10_findsLike_23 : decode cX10_findsLike 23 = .ok (.istore_n 3, 1) := by decide +kernel
theorem dX10_findsLike_24 : decode cX10_findsLike 24 = .ok (.iload_n 3, 1) := by decide +kernel
theorem dX10_findsLike_25 : decode cX10_findsLike 25 = .ok (.iload_n 1, 1) := by decide +kernel
theorem dX10_findsLike_26 : decode cX10_findsLike 26 = .ok (.if_icmp .ge 46, 3) := by decide +kernel
theorem dX10_findsLike_29 : decode cX10_findsLike 29 = .ok (.aload_n 0, 1) := by decide +kernel
theorem dX10_findsLike_30 : decode cX10_findsLike 30 = .ok (.getfield 19, 3) := by decide +kernel
theorem dX10_findsLike_33 : decode cX10_findsLike 33 = .ok (.iload_n 2, 1) := by decide +kernel
theorem dX10_findsLike_34 : decode cX10_findsLike 34 = .ok (.dup2, 1) := by decide +kernel
theorem dX10_findsLike_35 : decode cX10_findsLike 35 = .ok (.iaload, 1) := by decide +kernel
theorem dX10_findsLike_36 : decode cX10_findsLike 36 = .ok (.aload_n 0, 1) := by decide +kernel
theorem dX10_findsLike_37 : decode cX10_findsLike 37 = .ok (.getfield 7, 3) := by decide +kernel
theorem dX10_findsLike_40 : decode cX10_findsLike 40 = .ok (.bipush 8, 2) := by decide +kernel
theorem dX10_findsLike_42 : decode cX10_findsLike 42 = .ok (.iload_n 2, 1) := by decide +kernel
theorem dX10_findsLike_43 : decode cX10_findsLike 43 = .ok (.iadd, 1) := by decide +kernel
theorem dX10_findsLike_44 : decode cX10_findsLike 44 = .ok (.iaload, 1) := by decide +kernel
theorem dX10_findsLike_45 : decode cX10_findsLike 45 = .ok (.aload_n 0, 1) := by decide +kernel
theorem dX10_findsLike_46 : decode cX10_findsLike 46 = .ok (.getfield 7, 3) := by decide +kernel
theorem dX10_findsLike_49 : decode cX10_findsLike 49 = .ok (.bipush 8, 2) := by decide +kernel
theorem dX10_findsLike_51 : decode cX10_findsLike 51 = .ok (.iload_n 3, 1) := by decide +kernel
theorem dX10_findsLike_52 : decode cX10_findsLike 52 = .ok (.iadd, 1) := by decide +kernel
theorem dX10_findsLike_53 : decode cX10_findsLike 53 = .ok (.iaload, 1) := by decide +kernel
theorem dX10_findsLike_54 : decode cX10_findsLike 54 = .ok (.if_icmp .ne 9, 3) := by decide +kernel
theorem dX10_findsLike_57 : decode cX10_findsLike 57 = .ok (.iconst 1, 1) := by decide +kernel
theorem dX10_findsLike_58 : decode cX10_findsLike 58 = .ok (.iload_n 3, 1) := by decide +kernel
theorem dX10_findsLike_59 : decode cX10_findsLike 59 = .ok (.ishl, 1) := by decide +kernel
theorem dX10_findsLike_60 : decode cX10_findsLike 60 = .ok (.goto 4, 3) := by decide +kernel
theorem dX10_findsLike_63 : decode cX10_findsLike 63 = .ok (.iconst 0, 1) := by decide +kernel
theorem dX10_findsLike_64 : decode cX10_findsLike 64 = .ok (.ior, 1) := by decide +kernel
theorem dX10_findsLike_65 : decode cX10_findsLike 65 = .ok (.iastore, 1) := by decide +kernel
theorem dX10_findsLike_66 : decode cX10_findsLike 66 = .ok (.iinc 3 1, 3) := by decide +kernel
theorem dX10_findsLike_69 : decode cX10_findsLike 69 = .ok (.goto (-45), 3) := by decide +kernel
theorem dX10_findsLike_72 : decode cX10_findsLike 72 = .ok (.iinc 2 1, 3) := by decide +kernel
theorem dX10_findsLike_75 : decode cX10_findsLike 75 = .ok (.goto (-65), 3) := by decide +kernel
theorem dX10_findsLike_78 : decode cX10_findsLike 78 = .ok (.iconst 1, 1) := by decide +kernel
theorem dX10_findsLike_79 : decode cX10_findsLike 79 = .ok (.istore_n 2, 1) := by decide +kernel
theorem dX10_findsLike_80 : decode cX10_findsLike 80 = .ok (.iload_n 2, 1) := by decide +kernel
theorem dX10_findsLike_81 : decode cX10_findsLike 81 = .ok (.ifCond .eq 103, 3) := by decide +kernel
theorem dX10_findsLike_84 : decode cX10_findsLike 84 = .ok (.iconst 0, 1) := by decide +kernel
theorem dX10_findsLike_85 : decode cX10_findsLike 85 = .ok (.istore_n 2, 1) := by decide +kernel
theorem dX10_findsLike_86 : decode cX10_findsLike 86 = .ok (.iconst 0, 1) := by decide +kernel
theorem dX10_findsLike_87 : decode cX10_findsLike 87 = .ok (.istore_n 3, 1) := by decide +kernel
theorem dX10_findsLike_88 : decode cX10_findsLike 88 = .ok (.iload_n 3, 1) := by decide +kernel
theorem dX10_findsLike_89 : decode cX10_findsLike 89 = .ok (.iload_n 1, 1) := by decide +kernel
theorem dX10_findsLike_90 : decode cX10_findsLike 90 = .ok (.if_icmp .ge 91, 3) := by decide +kernel
theorem dX10_findsLike_93 : decode cX10_findsLike 93 = .ok (.iconst 0, 1) := by decide +kernel
theorem dX10_findsLike_94 : decode cX10_findsLike 94 = .ok (.istore 4, 2) := by decide +kernel
theorem dX10_findsLike_96 : decode cX10_findsLike 96 = .ok (.iload 4, 2) := by decide +kernel
theorem dX10_findsLike_98 : decode cX10_findsLike 98 = .ok (.iload_n 1, 1) := by decide +kernel
theorem dX10_findsLike_99 : decode cX10_findsLike 99 = .ok (.if_icmp .ge 76, 3) := by decide +kernel
theorem dX10_findsLike_102 : decode cX10_findsLike 102 = .ok (.aload_n 0, 1) := by decide +kernel
theorem dX10_findsLike_103 : decode cX10_findsLike 103 = .ok (.getfield 19, 3) := by decide +kernel
theorem dX10_findsLike_106 : decode cX10_findsLike 106 = .ok (.iload_n 3, 1) := by decide +kernel
theorem dX10_findsLike_107 : decode cX10_findsLike 107 = .ok (.iaload, 1) := by decide +kernel
theorem dX10_findsLike_108 : decode cX10_findsLike 108 = .ok (.iload 4, 2) := by decide +kernel
theorem dX10_findsLike_110 : decode cX10_findsLike 110 = .ok (.ishr, 1) := by decide +kernel
theorem dX10_findsLike_111 : decode cX10_findsLike 111 = .ok (.iconst 1, 1) := by decide +kernel
theorem dX10_findsLike_112 : decode cX10_findsLike 112 = .ok (.iand, 1) := by decide +kernel
theorem dX10_findsLike_113 : decode cX10_findsLike 113 = .ok (.iconst 1, 1) := by decide +kernel
theorem dX10_findsLike_114 : decode cX10_findsLike 114 = .ok (.if_icmp .ne 55, 3) := by decide +kernel
theorem dX10_findsLike_117 : decode cX10_findsLike 117 = .ok (.aload_n 0, 1) := by decide +kernel
theorem dX10_findsLike_118 : decode cX10_findsLike 118 = .ok (.iload_n 3, 1) := by decide +kernel
theorem dX10_findsLike_119 : decode cX10_findsLike 119 = .ok (.iload 4, 2) := by decide +kernel
theorem dX10_findsLike_121 : decode cX10_findsLike 121 = .ok (.invokevirtual 110, 3) := by decide +kernel
theorem dX10_findsLike_124 : decode cX10_findsLike 124 = .ok (.ifCond .eq 13, 3) := by decide +kernel
theorem dX10_findsLike_127 : decode cX10_findsLike 127 = .ok (.aload_n 0, 1) := by decide +kernel
theorem dX10_findsLike_128 : decode cX10_findsLike 128 = .ok (.iload 4, 2) := by decide +kernel
theorem dX10_findsLike_130 : decode cX10_findsLike 130 = .ok (.iload_n 3, 1) := by decide +kernel
theorem dX10_findsLike_131 : decode cX10_findsLike 131 = .ok (.invokevirtual 110, 3) := by decide +kernel
theorem dX10_findsLike_134 : decode cX10_findsLike 134 = .ok (.ifCond .ne 35, 3) := by decide +kernel
theorem dX10_findsLike_137 : decode cX10_findsLike 137 = .ok (.aload_n 0, 1) := by decide +kernel
theorem dX10_findsLike_138 : decode cX10_findsLike 138 = .ok (.getfield 19, 3) := by decide +kernel
theorem dX10_findsLike_141 : decode cX10_findsLike 141 = .ok (.iload_n 3, 1) := by decide +kernel
theorem dX10_findsLike_142 : decode cX10_findsLike 142 = .ok (.dup2, 1) := by decide +kernel
theorem dX10_findsLike_143 : decode cX10_findsLike 143 = .ok (.iaload, 1) := by decide +kernel
theorem dX10_findsLike_144 : decode cX10_findsLike 144 = .ok (.iconst 1, 1) := by decide +kernel
theorem dX10_findsLike_145 : decode cX10_findsLike 145 = .ok (.iload 4, 2) := by decide +kernel
theorem dX10_findsLike_147 : decode cX10_findsLike 147 = .ok (.ishl, 1) := by decide +kernel
theorem dX10_findsLike_148 : decode cX10_findsLike 148 = .ok (.iconst (-1), 1) := by decide +kernel
theorem dX10_findsLike_149 : decode cX10_findsLike 149 = .ok (.ixor, 1) := by decide +kernel
theorem dX10_findsLike_150 : decode cX10_findsLike 150 = .ok (.iand, 1) := by decide +kernel
theorem dX10_findsLike_151 : decode cX10_findsLike 151 = .ok (.iastore, 1) := by decide +kernel
theorem dX10_findsLike_152 : decode cX10_findsLike 152 = .ok (.aload_n 0, 1) := by decide +kernel
theorem dX10_findsLike_153 : decode cX10_findsLike 153 = .ok (.getfield 19, 3) := by decide +kernel
theorem dX10_findsLike_156 : decode cX10_findsLike 156 = .ok (.iload 4, 2) := by decide +kernel
theorem dX10_findsLike_158 : decode cX10_findsLike 158 = .ok (.dup2, 1) := by decide +kernel
theorem dX10_findsLike_159 : decode cX10_findsLike 159 = .ok (.iaload, 1) := by decide +kernel
theorem dX10_findsLike_160 : decode cX10_findsLike 160 = .ok (.iconst 1, 1) := by decide +kernel
theorem dX10_findsLike_161 : decode cX10_findsLike 161 = .ok (.iload_n 3, 1) := by decide +kernel
theorem dX10_findsLike_162 : decode cX10_findsLike 162 = .ok (.ishl, 1) := by decide +kernel
theorem dX10_findsLike_163 : decode cX10_findsLike 163 = .ok (.iconst (-1), 1) := by decide +kernel
theorem dX10_findsLike_164 : decode cX10_findsLike 164 = .ok (.ixor, 1) := by decide +kernel
theorem dX10_findsLike_165 : decode cX10_findsLike 165 = .ok (.iand, 1) := by decide +kernel
theorem dX10_findsLike_166 : decode cX10_findsLike 166 = .ok (.iastore, 1) := by decide +kernel
theorem dX10_findsLike_167 : decode cX10_findsLike 167 = .ok (.iconst 1, 1) := by decide +kernel
theorem dX10_findsLike_168 : decode cX10_findsLike 168 = .ok (.istore_n 2, 1) := by decide +kernel
theorem dX10_findsLike_169 : decode cX10_findsLike 169 = .ok (.iinc 4 1, 3) := by decide +kernel
theorem dX10_findsLike_172 : decode cX10_findsLike 172 = .ok (.goto (-76), 3) := by decide +kernel
theorem dX10_findsLike_175 : decode cX10_findsLike 175 = .ok (.iinc 3 1, 3) := by decide +kernel
theorem dX10_findsLike_178 : decode cX10_findsLike 178 = .ok (.goto (-90), 3) := by decide +kernel
theorem dX10_findsLike_181 : decode cX10_findsLike 181 = .ok (.goto (-101), 3) := by decide +kernel
theorem dX10_findsLike_184 : decode cX10_findsLike 184 = .ok (.return_, 1) := by decide +kernel
theorem dX10_lowest_0 : decode cX10_lowest 0 = .ok (.iconst 0, 1) := by decide +kernel
theorem dX10_lowest_1 : decode cX10_lowest 1 = .ok (.istore_n 1, 1) := by decide +kernel
theorem dX10_lowest_2 : decode cX10_lowest 2 = .ok (.iload_n 0, 1) := by decide +kernel
theorem dX10_lowest_3 : decode cX10_lowest 3 = .ok (.iload_n 1, 1) := by decide +kernel
theorem dX10_lowest_4 : decode cX10_lowest 4 = .ok (.ishr, 1) := by decide +kernel
theorem dX10_lowest_5 : decode cX10_lowest 5 = .ok (.iconst 1, 1) := by decide +kernel
theorem dX10_lowest_6 : decode cX10_lowest 6 = .ok (.iand, 1) := by decide +kernel
theorem dX10_lowest_7 : decode cX10_lowest 7 = .ok (.ifCond .ne 9, 3) := by decide +kernel
theorem dX10_lowest_10 : decode cX10_lowest 10 = .ok (.iinc 1 1, 3) := by decide +kernel
theorem dX10_lowest_13 : decode cX10_lowest 13 = .ok (.goto (-11), 3) := by decide +kernel
theorem dX10_lowest_16 : decode cX10_lowest 16 = .ok (.iload_n 1, 1) := by decide +kernel
theorem dX10_lowest_17 : decode cX10_lowest 17 = .ok (.ireturn, 1) := by decide +kernel
set_option maxRecDepth 20000 in
theorem ggX10_shrink_X10_findsLike : GoodIn wsX10_shrink wsX10_findsLike := goodIn_r _ [8, 1, 2, 9, 10, 11, 7, 12, 13, 14, 15, 16, 36, 37, 38, 39, 40, 41, 42, 43, 44, 45, 46, 47, 48, 49, 50, 51, 52, 53, 54, 55, 56, 57, 58, 59, 60] (by decide +kernel) (by decide +kernel)
set_option maxRecDepth 20000 in
theorem gX10_shrink_X10_findsLike : GoodIn wsX10_shrink (wsV RX10 113 RX10 yX10_findsLike wsX10_findsLike) := goodIn_app (goodIn_of _ (by decide +kernel)) ggX10_shrink_X10_findsLike
set_option maxRecDepth 20000 in
theorem ggX10_shrink_X10_lowest : GoodIn wsX10_shrink wsX10_lowest := goodIn_r _ [19] (by decide +kernel) (by decide +kernel)
set_option maxRecDepth 20000 in
theorem gX10_shrink_X10_lowest : GoodIn wsX10_shrink (va_wsS RX10 116 yX10_lowest wsX10_lowest) := goodIn_app (goodIn_of _ (by decide +kernel)) ggX10_shrink_X10_lowest
set_option maxRecDepth 20000 in
theorem ggX10_shrink_X10_leadsTo : GoodIn wsX10_shrink wsX10_leadsTo := goodIn_r _ [16, 1, 36, 37, 38, 39, 40, 41, 42, 43, 44, 45, 46, 47, 48, 49, 50, 51, 52, 53, 54, 55, 56, 57, 58, 59, 60] (by decide +kernel) (by decide +kernel)
set_option maxRecDepth 20000 in
theorem gX10_shrink_X10_leadsTo : GoodIn wsX10_shrink (wsV RX10 78 RX10 yX10_leadsTo wsX10_leadsTo) := goodIn_app (goodIn_of _ (by decide +kernel)) ggX10_shrink_X10_leadsTo
set_option maxRecDepth 20000 in
theorem ggX10_shrink_X10_record : GoodIn wsX10_shrink wsX10_record := goodIn_r _ [23, 24, 25, 1, 36, 37, 38, 39, 40, 41, 42, 43, 44, 45, 46, 47, 48, 49, 50, 51, 52, 53, 54, 55, 56, 57, 58, 59, 60] (by decide +kernel) (by decide +kernel)
set_option maxRecDepth 20000 in
theorem gX10_shrink_X10_record : GoodIn wsX10_shrink (wsV RX10 89 RX10 yX10_record wsX10_record) := goodIn_app (goodIn_of _ (by decide +kernel)) ggX10_shrink_X10_record
set_option maxRecDepth 20000 in
theorem ggX10_shrink_X10_removes : GoodIn wsX10_shrink wsX10_removes := goodIn_r _ [29, 1, 30, 31, 7, 32, 36, 37, 38, 39, 40, 41, 42, 43, 44, 45, 46, 47, 48, 49, 50, 51, 52, 53, 54, 55, 56, 57, 58, 59, 60] (by decide +kernel) (by decide +kernel)
set_option maxRecDepth 20000 in
theorem gX10_shrink_X10_removes : GoodIn wsX10_shrink (wsV RX10 106 RX10 yX10_removes wsX10_removes) := goodIn_app (goodIn_of _ (by decide +kernel)) ggX10_shrink_X10_removes
set_option maxRecDepth 20000 in
theorem ggX10_shrink_X10_bits : GoodIn wsX10_shrink wsX10_bits := goodIn_r _ [35] (by decide +kernel) (by decide +kernel)
set_option maxRecDepth 20000 in
theorem gX10_shrink_X10_bits : GoodIn wsX10_shrink (va_wsS RX10 82 yX10_bits wsX10_bits) := goodIn_app (goodIn_of _ (by decide +kernel)) ggX10_shrink_X10_bits
theorem dX10_shrink_0 : decode cX10_shrink 0 = .ok (.aload_n 0, 1) := by decide +kernel
theorem dX10_shrink_1 : decode cX10_shrink 1 = .ok (.invokevirtual 113, 3) := by decide +kernel
theorem dX10_shrink_4 : decode cX10_shrink 4 = .ok (.aload_n 0, 1) := by decide +kernel
theorem dX10_shrink_5 : decode cX10_shrink 5 = .ok (.getfield 7, 3) := by decide +kernel
theorem dX10_shrink_8 : decode cX10_shrink 8 = .ok (.bipush 16, 2) := by decide +kernel
theorem dX10_shrink_10 : decode cX10_shrink 10 = .ok (.iaload, 1) := by decide +kernel
theorem dX10_shrink_11 : decode cX10_shrink 11 = .ok (.istore_n 1, 1) := by decide +kernel
theorem dX10_shrink_12 : decode cX10_shrink 12 = .ok (.iconst 0, 1) := by decide +kernel
theorem dX10_shrink_13 : decode cX10_shrink 13 = .ok (.istore_n 2, 1) := by decide +kernel
theorem dX10_shrink_14 : decode cX10_shrink 14 = .ok (.iconst 0, 1) := by decide +kernel
theorem dX10_shrink_15 : decode cX10_shrink 15 = .ok (.istore_n 3, 1) := by decide +kernel
theorem dX10_shrink_16 : decode cX10_shrink 16 = .ok (.iload_n 3, 1) := by decide +kernel
theorem dX10_shrink_17 : decode cX10_shrink 17 = .ok (.iload_n 1, 1) := by decide +kernel
theorem dX10_shrink_18 : decode cX10_shrink 18 = .ok (.if_icmp .ge 115, 3) := by decide +kernel
theorem dX10_shrink_21 : decode cX10_shrink 21 = .ok (.aload_n 0, 1) := by decide +kernel
theorem dX10_shrink_22 : decode cX10_shrink 22 = .ok (.getfield 19, 3) := by decide +kernel
theorem dX10_shrink_25 : decode cX10_shrink 25 = .ok (.iload_n 3, 1) := by decide +kernel
theorem dX10_shrink_26 : decode cX10_shrink 26 = .ok (.iaload, 1) := by decide +kernel
theorem dX10_shrink_27 : decode cX10_shrink 27 = .ok (.invokestatic 116, 3) := by decide +kernel
theorem dX10_shrink_30 : decode cX10_shrink 30 = .ok (.iload_n 3, 1) := by decide +kernel
theorem dX10_shrink_31 : decode cX10_shrink 31 = .ok (.if_icmp .ne 7, 3) := by decide +kernel
theorem dX10_shrink_34 : decode cX10_shrink 34 = .ok (.iconst 1, 1) := by decide +kernel
theorem dX10_shrink_35 : decode cX10_shrink 35 = .ok (.goto 4, 3) := by decide +kernel
theorem dX10_shrink_38 : decode cX10_shrink 38 = .ok (.iconst 0, 1) := by decide +kernel
theorem dX10_shrink_39 : decode cX10_shrink 39 = .ok (.istore 4, 2) := by decide +kernel
theorem dX10_shrink_41 : decode cX10_shrink 41 = .ok (.iload_n 2, 1) := by decide +kernel
theorem dX10_shrink_42 : decode cX10_shrink 42 = .ok (.iload 4, 2) := by decide +kernel
theorem dX10_shrink_44 : decode cX10_shrink 44 = .ok (.ifCond .eq 7, 3) := by decide +kernel
theorem dX10_shrink_47 : decode cX10_shrink 47 = .ok (.iconst 0, 1) := by decide +kernel
theorem dX10_shrink_48 : decode cX10_shrink 48 = .ok (.goto 6, 3) := by decide +kernel
theorem dX10_shrink_51 : decode cX10_shrink 51 = .ok (.iconst 1, 1) := by decide +kernel
theorem dX10_shrink_52 : decode cX10_shrink 52 = .ok (.iload_n 3, 1) := by decide +kernel
theorem dX10_shrink_53 : decode cX10_shrink 53 = .ok (.ishl, 1) := by decide +kernel
theorem dX10_shrink_54 : decode cX10_shrink 54 = .ok (.ior, 1) := by decide +kernel
theorem dX10_shrink_55 : decode cX10_shrink 55 = .ok (.istore_n 2, 1) := by decide +kernel
theorem dX10_shrink_56 : decode cX10_shrink 56 = .ok (.aload_n 0, 1) := by decide +kernel
theorem dX10_shrink_57 : decode cX10_shrink 57 = .ok (.getfield 22, 3) := by decide +kernel
theorem dX10_shrink_60 : decode cX10_shrink 60 = .ok (.iload_n 3, 1) := by decide +kernel
theorem dX10_shrink_61 : decode cX10_shrink 61 = .ok (.iconst 0, 1) := by decide +kernel
theorem dX10_shrink_62 : decode cX10_shrink 62 = .ok (.iastore, 1) := by decide +kernel
theorem dX10_shrink_63 : decode cX10_shrink 63 = .ok (.iconst 0, 1) := by decide +kernel
theorem dX10_shrink_64 : decode cX10_shrink 64 = .ok (.istore 5, 2) := by decide +kernel
theorem dX10_shrink_66 : decode cX10_shrink 66 = .ok (.iload 5, 2) := by decide +kernel
theorem dX10_shrink_68 : decode cX10_shrink 68 = .ok (.iload_n 1, 1) := by decide +kernel
theorem dX10_shrink_69 : decode cX10_shrink 69 = .ok (.if_icmp .ge 58, 3) := by decide +kernel
theorem dX10_shrink_72 : decode cX10_shrink 72 = .ok (.iload 4, 2) := by decide +kernel
theorem dX10_shrink_74 : decode cX10_shrink 74 = .ok (.ifCond .eq 47, 3) := by decide +kernel
theorem dX10_shrink_77 : decode cX10_shrink 77 = .ok (.aload_n 0, 1) := by decide +kernel
theorem dX10_shrink_78 : decode cX10_shrink 78 = .ok (.iload_n 3, 1) := by decide +kernel
theorem dX10_shrink_79 : decode cX10_shrink 79 = .ok (.iload 5, 2) := by decide +kernel
theorem dX10_shrink_81 : decode cX10_shrink 81 = .ok (.invokevirtual 78, 3) := by decide +kernel
theorem dX10_shrink_84 : decode cX10_shrink 84 = .ok (.ifCond .eq 37, 3) := by decide +kernel
theorem dX10_shrink_87 : decode cX10_shrink 87 = .ok (.aload_n 0, 1) := by decide +kernel
theorem dX10_shrink_88 : decode cX10_shrink 88 = .ok (.getfield 19, 3) := by decide +kernel
theorem dX10_shrink_91 : decode cX10_shrink 91 = .ok (.iload 5, 2) := by decide +kernel
theorem dX10_shrink_93 : decode cX10_shrink 93 = .ok (.iaload, 1) := by decide +kernel
theorem dX10_shrink_94 : decode cX10_shrink 94 = .ok (.invokestatic 116, 3) := by decide +kernel
theorem dX10_shrink_97 : decode cX10_shrink 97 = .ok (.istore 6, 2) := by decide +kernel
theorem dX10_shrink_99 : decode cX10_shrink 99 = .ok (.iload 6, 2) := by decide +kernel
theorem dX10_shrink_101 : decode cX10_shrink 101 = .ok (.iload_n 3, 1) := by decide +kernel
theorem dX10_shrink_102 : decode cX10_shrink 102 = .ok (.if_icmp .ge 6, 3) := by decide +kernel
theorem dX10_shrink_105 : decode cX10_shrink 105 = .ok (.bipush (-4), 2) := by decide +kernel
theorem dX10_shrink_107 : decode cX10_shrink 107 = .ok (.ireturn, 1) := by decide +kernel
theorem dX10_shrink_108 : decode cX10_shrink 108 = .ok (.aload_n 0, 1) := by decide +kernel
theorem dX10_shrink_109 : decode cX10_shrink 109 = .ok (.getfield 22, 3) := by decide +kernel
theorem dX10_shrink_112 : decode cX10_shrink 112 = .ok (.iload_n 3, 1) := by decide +kernel
theorem dX10_shrink_113 : decode cX10_shrink 113 = .ok (.dup2, 1) := by decide +kernel
theorem dX10_shrink_114 : decode cX10_shrink 114 = .ok (.iaload, 1) := by decide +kernel
theorem dX10_shrink_115 : decode cX10_shrink 115 = .ok (.iconst 1, 1) := by decide +kernel
theorem dX10_shrink_116 : decode cX10_shrink 116 = .ok (.iload 6, 2) := by decide +kernel
theorem dX10_shrink_118 : decode cX10_shrink 118 = .ok (.ishl, 1) := by decide +kernel
theorem dX10_shrink_119 : decode cX10_shrink 119 = .ok (.ior, 1) := by decide +kernel
theorem dX10_shrink_120 : decode cX10_shrink 120 = .ok (.iastore, 1) := by decide +kernel
theorem dX10_shrink_121 : decode cX10_shrink 121 = .ok (.iinc 5 1, 3) := by decide +kernel
theorem dX10_shrink_124 : decode cX10_shrink 124 = .ok (.goto (-58), 3) := by decide +kernel
theorem dX10_shrink_127 : decode cX10_shrink 127 = .ok (.iinc 3 1, 3) := by decide +kernel
theorem dX10_shrink_130 : decode cX10_shrink 130 = .ok (.goto (-114), 3) := by decide +kernel
theorem dX10_shrink_133 : decode cX10_shrink 133 = .ok (.iload_n 2, 1) := by decide +kernel
theorem dX10_shrink_134 : decode cX10_shrink 134 = .ok (.ifCond .ne 6, 3) := by decide +kernel
theorem dX10_shrink_137 : decode cX10_shrink 137 = .ok (.bipush (-5), 2) := by decide +kernel
theorem dX10_shrink_139 : decode cX10_shrink 139 = .ok (.ireturn, 1) := by decide +kernel
theorem dX10_shrink_140 : decode cX10_shrink 140 = .ok (.aload_n 0, 1) := by decide +kernel
theorem dX10_shrink_141 : decode cX10_shrink 141 = .ok (.invokevirtual 89, 3) := by decide +kernel
theorem dX10_shrink_144 : decode cX10_shrink 144 = .ok (.iconst 0, 1) := by decide +kernel
theorem dX10_shrink_145 : decode cX10_shrink 145 = .ok (.istore_n 3, 1) := by decide +kernel
theorem dX10_shrink_146 : decode cX10_shrink 146 = .ok (.iload_n 3, 1) := by decide +kernel
theorem dX10_shrink_147 : decode cX10_shrink 147 = .ok (.iload_n 1, 1) := by decide +kernel
theorem dX10_shrink_148 : decode cX10_shrink 148 = .ok (.if_icmp .ge 23, 3) := by decide +kernel
theorem dX10_shrink_151 : decode cX10_shrink 151 = .ok (.aload_n 0, 1) := by decide +kernel
theorem dX10_shrink_152 : decode cX10_shrink 152 = .ok (.getfield 7, 3) := by decide +kernel
theorem dX10_shrink_155 : decode cX10_shrink 155 = .ok (.iconst 0, 1) := by decide +kernel
theorem dX10_shrink_156 : decode cX10_shrink 156 = .ok (.iload_n 3, 1) := by decide +kernel
theorem dX10_shrink_157 : decode cX10_shrink 157 = .ok (.iadd, 1) := by decide +kernel
theorem dX10_shrink_158 : decode cX10_shrink 158 = .ok (.aload_n 0, 1) := by decide +kernel
theorem dX10_shrink_159 : decode cX10_shrink 159 = .ok (.getfield 22, 3) := by decide +kernel
theorem dX10_shrink_162 : decode cX10_shrink 162 = .ok (.iload_n 3, 1) := by decide +kernel
theorem dX10_shrink_163 : decode cX10_shrink 163 = .ok (.iaload, 1) := by decide +kernel
theorem dX10_shrink_164 : decode cX10_shrink 164 = .ok (.iastore, 1) := by decide +kernel
theorem dX10_shrink_165 : decode cX10_shrink 165 = .ok (.iinc 3 1, 3) := by decide +kernel
theorem dX10_shrink_168 : decode cX10_shrink 168 = .ok (.goto (-22), 3) := by decide +kernel
theorem dX10_shrink_171 : decode cX10_shrink 171 = .ok (.iload_n 1, 1) := by decide +kernel
theorem dX10_shrink_172 : decode cX10_shrink 172 = .ok (.iconst 1, 1) := by decide +kernel
theorem dX10_shrink_173 : decode cX10_shrink 173 = .ok (.isub, 1) := by decide +kernel
theorem dX10_shrink_174 : decode cX10_shrink 174 = .ok (.istore_n 3, 1) := by decide +kernel
theorem dX10_shrink_175 : decode cX10_shrink 175 = .ok (.iload_n 3, 1) := by decide +kernel
theorem dX10_shrink_176 : decode cX10_shrink 176 = .ok (.ifCond .lt 23, 3) := by decide +kernel
theorem dX10_shrink_179 : decode cX10_shrink 179 = .ok (.iload_n 2, 1) := by decide +kernel
theorem dX10_shrink_180 : decode cX10_shrink 180 = .ok (.iload_n 3, 1) := by decide +kernel
theorem dX10_shrink_181 : decode cX10_shrink 181 = .ok (.ishr, 1) := by decide +kernel
theorem dX10_shrink_182 : decode cX10_shrink 182 = .ok (.iconst 1, 1) := by decide +kernel
theorem dX10_shrink_183 : decode cX10_shrink 183 = .ok (.iand, 1) := by decide +kernel
theorem dX10_shrink_184 : decode cX10_shrink 184 = .ok (.iconst 1, 1) := by decide +kernel
theorem dX10_shrink_185 : decode cX10_shrink 185 = .ok (.if_icmp .ne 8, 3) := by decide +kernel
theorem dX10_shrink_188 : decode cX10_shrink 188 = .ok (.aload_n 0, 1) := by decide +kernel
theorem dX10_shrink_189 : decode cX10_shrink 189 = .ok (.iload_n 3, 1) := by decide +kernel
theorem dX10_shrink_190 : decode cX10_shrink 190 = .ok (.invokevirtual 106, 3) := by decide +kernel
theorem dX10_shrink_193 : decode cX10_shrink 193 = .ok (.iinc 3 (-1), 3) := by decide +kernel
theorem dX10_shrink_196 : decode cX10_shrink 196 = .ok (.goto (-21), 3) := by decide +kernel
theorem dX10_shrink_199 : decode cX10_shrink 199 = .ok (.iload_n 2, 1) := by decide +kernel
theorem dX10_shrink_200 : decode cX10_shrink 200 = .ok (.invokestatic 82, 3) := by decide +kernel
theorem dX10_shrink_203 : decode cX10_shrink 203 = .ok (.ireturn, 1) := by decide +kernel
theorem dX10_type_0 : decode cX10_type 0 = .ok (.aload_n 0, 1) := by decide +kernel
theorem dX10_type_1 : decode cX10_type 1 = .ok (.getfield 119, 3) := by decide +kernel
theorem dX10_type_4 : decode cX10_type 4 = .ok (.bipush 30, 2) := by decide +kernel
theorem dX10_type_6 : decode cX10_type 6 = .ok (.if_icmp .ne 6, 3) := by decide +kernel
theorem dX10_type_9 : decode cX10_type 9 = .ok (.bipush (-3), 2) := by decide +kernel
theorem dX10_type_11 : decode cX10_type 11 = .ok (.ireturn, 1) := by decide +kernel
theorem dX10_type_12 : decode cX10_type 12 = .ok (.aload_n 0, 1) := by decide +kernel
theorem dX10_type_13 : decode cX10_type 13 = .ok (.getfield 25, 3) := by decide +kernel
theorem dX10_type_16 : decode cX10_type 16 = .ok (.aload_n 0, 1) := by decide +kernel
theorem dX10_type_17 : decode cX10_type 17 = .ok (.getfield 119, 3) := by decide +kernel
theorem dX10_type_20 : decode cX10_type 20 = .ok (.iload_n 1, 1) := by decide +kernel
theorem dX10_type_21 : decode cX10_type 21 = .ok (.castore, 1) := by decide +kernel
theorem dX10_type_22 : decode cX10_type 22 = .ok (.aload_n 0, 1) := by decide +kernel
theorem dX10_type_23 : decode cX10_type 23 = .ok (.dup, 1) := by decide +kernel
theorem dX10_type_24 : decode cX10_type 24 = .ok (.getfield 119, 3) := by decide +kernel
theorem dX10_type_27 : decode cX10_type 27 = .ok (.iconst 1, 1) := by decide +kernel
theorem dX10_type_28 : decode cX10_type 28 = .ok (.iadd, 1) := by decide +kernel
theorem dX10_type_29 : decode cX10_type 29 = .ok (.putfield 119, 3) := by decide +kernel
theorem dX10_type_32 : decode cX10_type 32 = .ok (.aload_n 0, 1) := by decide +kernel
theorem dX10_type_33 : decode cX10_type 33 = .ok (.getfield 119, 3) := by decide +kernel
theorem dX10_type_36 : decode cX10_type 36 = .ok (.ireturn, 1) := by decide +kernel
theorem dX10_clearText_0 : decode cX10_clearText 0 = .ok (.aload_n 0, 1) := by decide +kernel
theorem dX10_clearText_1 : decode cX10_clearText 1 = .ok (.getfield 119, 3) := by decide +kernel
theorem dX10_clearText_4 : decode cX10_clearText 4 = .ok (.istore_n 1, 1) := by decide +kernel
theorem dX10_clearText_5 : decode cX10_clearText 5 = .ok (.aload_n 0, 1) := by decide +kernel
theorem dX10_clearText_6 : decode cX10_clearText 6 = .ok (.iconst 0, 1) := by decide +kernel
theorem dX10_clearText_7 : decode cX10_clearText 7 = .ok (.putfield 119, 3) := by decide +kernel
theorem dX10_clearText_10 : decode cX10_clearText 10 = .ok (.iload_n 1, 1) := by decide +kernel
theorem dX10_clearText_11 : decode cX10_clearText 11 = .ok (.ireturn, 1) := by decide +kernel
theorem dX10_puts_0 : decode cX10_puts 0 = .ok (.aload_n 0, 1) := by decide +kernel
theorem dX10_puts_1 : decode cX10_puts 1 = .ok (.getfield 29, 3) := by decide +kernel
theorem dX10_puts_4 : decode cX10_puts 4 = .ok (.aload_n 0, 1) := by decide +kernel
theorem dX10_puts_5 : decode cX10_puts 5 = .ok (.getfield 122, 3) := by decide +kernel
theorem dX10_puts_8 : decode cX10_puts 8 = .ok (.iload_n 1, 1) := by decide +kernel
theorem dX10_puts_9 : decode cX10_puts 9 = .ok (.iastore, 1) := by decide +kernel
theorem dX10_puts_10 : decode cX10_puts 10 = .ok (.aload_n 0, 1) := by decide +kernel
theorem dX10_puts_11 : decode cX10_puts 11 = .ok (.dup, 1) := by decide +kernel
theorem dX10_puts_12 : decode cX10_puts 12 = .ok (.getfield 122, 3) := by decide +kernel
theorem dX10_puts_15 : decode cX10_puts 15 = .ok (.iconst 1, 1) := by decide +kernel
theorem dX10_puts_16 : decode cX10_puts 16 = .ok (.iadd, 1) := by decide +kernel
theorem dX10_puts_17 : decode cX10_puts 17 = .ok (.putfield 122, 3) := by decide +kernel
theorem dX10_puts_20 : decode cX10_puts 20 = .ok (.return_, 1) := by decide +kernel
set_option maxRecDepth 20000 in
theorem ggX10_comesOut_X10_puts : GoodIn wsX10_comesOut wsX10_puts := goodIn_r _ [7, 8, 9, 10, 11, 12, 13, 14, 15, 16, 17, 18, 19, 20, 21, 22, 23, 24, 25, 26, 27, 28, 29, 30, 31, 32, 33, 34] (by decide +kernel) (by decide +kernel)
set_option maxRecDepth 20000 in
theorem gX10_comesOut_X10_puts : GoodIn wsX10_comesOut (wsV RX10 128 RX10 yX10_puts wsX10_puts) := goodIn_app (goodIn_of _ (by decide +kernel)) ggX10_comesOut_X10_puts
theorem dX10_comesOut_0 : decode cX10_comesOut 0 = .ok (.aload_n 0, 1) := by decide +kernel
theorem dX10_comesOut_1 : decode cX10_comesOut 1 = .ok (.getfield 125, 3) := by decide +kernel
theorem dX10_comesOut_4 : decode cX10_comesOut 4 = .ok (.ifCond .le 81, 3) := by decide +kernel
theorem dX10_comesOut_7 : decode cX10_comesOut 7 = .ok (.aload_n 0, 1) := by decide +kernel
theorem dX10_comesOut_8 : decode cX10_comesOut 8 = .ok (.getfield 32, 3) := by decide +kernel
theorem dX10_comesOut_11 : decode cX10_comesOut 11 = .ok (.aload_n 0, 1) := by decide +kernel
theorem dX10_comesOut_12 : decode cX10_comesOut 12 = .ok (.getfield 125, 3) := by decide +kernel
theorem dX10_comesOut_15 : decode cX10_comesOut 15 = .ok (.iconst 1, 1) := by decide +kernel
theorem dX10_comesOut_16 : decode cX10_comesOut 16 = .ok (.isub, 1) := by decide +kernel
theorem dX10_comesOut_17 : decode cX10_comesOut 17 = .ok (.iaload, 1) := by decide +kernel
theorem dX10_comesOut_18 : decode cX10_comesOut 18 = .ok (.bipush 10, 2) := by decide +kernel
theorem dX10_comesOut_20 : decode cX10_comesOut 20 = .ok (.if_icmp .ge 65, 3) := by decide +kernel
theorem dX10_comesOut_23 : decode cX10_comesOut 23 = .ok (.aload_n 0, 1) := by decide +kernel
theorem dX10_comesOut_24 : decode cX10_comesOut 24 = .ok (.getfield 32, 3) := by decide +kernel
theorem dX10_comesOut_27 : decode cX10_comesOut 27 = .ok (.aload_n 0, 1) := by decide +kernel
theorem dX10_comesOut_28 : decode cX10_comesOut 28 = .ok (.getfield 125, 3) := by decide +kernel
theorem dX10_comesOut_31 : decode cX10_comesOut 31 = .ok (.iconst 1, 1) := by decide +kernel
theorem dX10_comesOut_32 : decode cX10_comesOut 32 = .ok (.isub, 1) := by decide +kernel
theorem dX10_comesOut_33 : decode cX10_comesOut 33 = .ok (.iaload, 1) := by decide +kernel
theorem dX10_comesOut_34 : decode cX10_comesOut 34 = .ok (.iload_n 1, 1) := by decide +kernel
theorem dX10_comesOut_35 : decode cX10_comesOut 35 = .ok (.if_icmp .lt 24, 3) := by decide +kernel
theorem dX10_comesOut_38 : decode cX10_comesOut 38 = .ok (.aload_n 0, 1) := by decide +kernel
theorem dX10_comesOut_39 : decode cX10_comesOut 39 = .ok (.getfield 32, 3) := by decide +kernel
theorem dX10_comesOut_42 : decode cX10_comesOut 42 = .ok (.aload_n 0, 1) := by decide +kernel
theorem dX10_comesOut_43 : decode cX10_comesOut 43 = .ok (.getfield 125, 3) := by decide +kernel
theorem dX10_comesOut_46 : decode cX10_comesOut 46 = .ok (.iconst 1, 1) := by decide +kernel
theorem dX10_comesOut_47 : decode cX10_comesOut 47 = .ok (.isub, 1) := by decide +kernel
theorem dX10_comesOut_48 : decode cX10_comesOut 48 = .ok (.iaload, 1) := by decide +kernel
theorem dX10_comesOut_49 : decode cX10_comesOut 49 = .ok (.iload_n 1, 1) := by decide +kernel
theorem dX10_comesOut_50 : decode cX10_comesOut 50 = .ok (.if_icmp .ne 35, 3) := by decide +kernel
theorem dX10_comesOut_53 : decode cX10_comesOut 53 = .ok (.iload_n 1, 1) := by decide +kernel
theorem dX10_comesOut_54 : decode cX10_comesOut 54 = .ok (.bipush 9, 2) := by decide +kernel
theorem dX10_comesOut_56 : decode cX10_comesOut 56 = .ok (.if_icmp .eq 29, 3) := by decide +kernel
theorem dX10_comesOut_59 : decode cX10_comesOut 59 = .ok (.aload_n 0, 1) := by decide +kernel
theorem dX10_comesOut_60 : decode cX10_comesOut 60 = .ok (.dup, 1) := by decide +kernel
theorem dX10_comesOut_61 : decode cX10_comesOut 61 = .ok (.getfield 125, 3) := by decide +kernel
theorem dX10_comesOut_64 : decode cX10_comesOut 64 = .ok (.iconst 1, 1) := by decide +kernel
theorem dX10_comesOut_65 : decode cX10_comesOut 65 = .ok (.isub, 1) := by decide +kernel
theorem dX10_comesOut_66 : decode cX10_comesOut 66 = .ok (.putfield 125, 3) := by decide +kernel
theorem dX10_comesOut_69 : decode cX10_comesOut 69 = .ok (.aload_n 0, 1) := by decide +kernel
theorem dX10_comesOut_70 : decode cX10_comesOut 70 = .ok (.aload_n 0, 1) := by decide +kernel
theorem dX10_comesOut_71 : decode cX10_comesOut 71 = .ok (.getfield 32, 3) := by decide +kernel
theorem dX10_comesOut_74 : decode cX10_comesOut 74 = .ok (.aload_n 0, 1) := by decide +kernel
theorem dX10_comesOut_75 : decode cX10_comesOut 75 = .ok (.getfield 125, 3) := by decide +kernel
theorem dX10_comesOut_78 : decode cX10_comesOut 78 = .ok (.iaload, 1) := by decide +kernel
theorem dX10_comesOut_79 : decode cX10_comesOut 79 = .ok (.invokevirtual 128, 3) := by decide +kernel
theorem dX10_comesOut_82 : decode cX10_comesOut 82 = .ok (.goto (-82), 3) := by decide +kernel
theorem dX10_comesOut_85 : decode cX10_comesOut 85 = .ok (.return_, 1) := by decide +kernel
theorem dX10_waitsThen_0 : decode cX10_waitsThen 0 = .ok (.aload_n 0, 1) := by decide +kernel
theorem dX10_waitsThen_1 : decode cX10_waitsThen 1 = .ok (.getfield 32, 3) := by decide +kernel
theorem dX10_waitsThen_4 : decode cX10_waitsThen 4 = .ok (.aload_n 0, 1) := by decide +kernel
theorem dX10_waitsThen_5 : decode cX10_waitsThen 5 = .ok (.getfield 125, 3) := by decide +kernel
theorem dX10_waitsThen_8 : decode cX10_waitsThen 8 = .ok (.iload_n 1, 1) := by decide +kernel
theorem dX10_waitsThen_9 : decode cX10_waitsThen 9 = .ok (.iastore, 1) := by decide +kernel
theorem dX10_waitsThen_10 : decode cX10_waitsThen 10 = .ok (.aload_n 0, 1) := by decide +kernel
theorem dX10_waitsThen_11 : decode cX10_waitsThen 11 = .ok (.dup, 1) := by decide +kernel
theorem dX10_waitsThen_12 : decode cX10_waitsThen 12 = .ok (.getfield 125, 3) := by decide +kernel
theorem dX10_waitsThen_15 : decode cX10_waitsThen 15 = .ok (.iconst 1, 1) := by decide +kernel
theorem dX10_waitsThen_16 : decode cX10_waitsThen 16 = .ok (.iadd, 1) := by decide +kernel
theorem dX10_waitsThen_17 : decode cX10_waitsThen 17 = .ok (.putfield 125, 3) := by decide +kernel
theorem dX10_waitsThen_20 : decode cX10_waitsThen 20 = .ok (.return_, 1) := by decide +kernel
theorem dX10_operand_0 : decode cX10_operand 0 = .ok (.iload_n 0, 1) := by decide +kernel
theorem dX10_operand_1 : decode cX10_operand 1 = .ok (.bipush 97, 2) := by decide +kernel
theorem dX10_operand_3 : decode cX10_operand 3 = .ok (.if_icmp .lt 16, 3) := by decide +kernel
theorem dX10_operand_6 : decode cX10_operand 6 = .ok (.iload_n 0, 1) := by decide +kernel
theorem dX10_operand_7 : decode cX10_operand 7 = .ok (.bipush 100, 2) := by decide +kernel
theorem dX10_operand_9 : decode cX10_operand 9 = .ok (.if_icmp .gt 10, 3) := by decide +kernel
theorem dX10_operand_12 : decode cX10_operand 12 = .ok (.iload_n 0, 1) := by decide +kernel
theorem dX10_operand_13 : decode cX10_operand 13 = .ok (.bipush 97, 2) := by decide +kernel
theorem dX10_operand_15 : decode cX10_operand 15 = .ok (.isub, 1) := by decide +kernel
theorem dX10_operand_16 : decode cX10_operand 16 = .ok (.goto 25, 3) := by decide +kernel
theorem dX10_operand_19 : decode cX10_operand 19 = .ok (.iload_n 0, 1) := by decide +kernel
theorem dX10_operand_20 : decode cX10_operand 20 = .ok (.bipush 84, 2) := by decide +kernel
theorem dX10_operand_22 : decode cX10_operand 22 = .ok (.if_icmp .ne 7, 3) := by decide +kernel
theorem dX10_operand_25 : decode cX10_operand 25 = .ok (.iconst 4, 1) := by decide +kernel
theorem dX10_operand_26 : decode cX10_operand 26 = .ok (.goto 15, 3) := by decide +kernel
theorem dX10_operand_29 : decode cX10_operand 29 = .ok (.iload_n 0, 1) := by decide +kernel
theorem dX10_operand_30 : decode cX10_operand 30 = .ok (.bipush 70, 2) := by decide +kernel
theorem dX10_operand_32 : decode cX10_operand 32 = .ok (.if_icmp .ne 7, 3) := by decide +kernel
theorem dX10_operand_35 : decode cX10_operand 35 = .ok (.iconst 5, 1) := by decide +kernel
theorem dX10_operand_36 : decode cX10_operand 36 = .ok (.goto 5, 3) := by decide +kernel
theorem dX10_operand_39 : decode cX10_operand 39 = .ok (.bipush (-5), 2) := by decide +kernel
theorem dX10_operand_41 : decode cX10_operand 41 = .ok (.ireturn, 1) := by decide +kernel
theorem dX10_operator_0 : decode cX10_operator 0 = .ok (.iload_n 0, 1) := by decide +kernel
theorem dX10_operator_1 : decode cX10_operator 1 = .ok (.bipush 38, 2) := by decide +kernel
theorem dX10_operator_3 : decode cX10_operator 3 = .ok (.if_icmp .ne 8, 3) := by decide +kernel
theorem dX10_operator_6 : decode cX10_operator 6 = .ok (.bipush 7, 2) := by decide +kernel
theorem dX10_operator_8 : decode cX10_operator 8 = .ok (.goto 27, 3) := by decide +kernel
theorem dX10_operator_11 : decode cX10_operator 11 = .ok (.iload_n 0, 1) := by decide +kernel
theorem dX10_operator_12 : decode cX10_operator 12 = .ok (.bipush 124, 2) := by decide +kernel
theorem dX10_operator_14 : decode cX10_operator 14 = .ok (.if_icmp .ne 8, 3) := by decide +kernel
theorem dX10_operator_17 : decode cX10_operator 17 = .ok (.bipush 8, 2) := by decide +kernel
theorem dX10_operator_19 : decode cX10_operator 19 = .ok (.goto 16, 3) := by decide +kernel
theorem dX10_operator_22 : decode cX10_operator 22 = .ok (.iload_n 0, 1) := by decide +kernel
theorem dX10_operator_23 : decode cX10_operator 23 = .ok (.bipush 62, 2) := by decide +kernel
theorem dX10_operator_25 : decode cX10_operator 25 = .ok (.if_icmp .ne 8, 3) := by decide +kernel
theorem dX10_operator_28 : decode cX10_operator 28 = .ok (.bipush 9, 2) := by decide +kernel
theorem dX10_operator_30 : decode cX10_operator 30 = .ok (.goto 5, 3) := by decide +kernel
theorem dX10_operator_33 : decode cX10_operator 33 = .ok (.bipush (-5), 2) := by decide +kernel
theorem dX10_operator_35 : decode cX10_operator 35 = .ok (.ireturn, 1) := by decide +kernel
set_option maxRecDepth 20000 in
theorem ggX10_isClaim_X10_comesOut : GoodIn wsX10_isClaim wsX10_comesOut := goodIn_r _ [10, 2, 11, 12, 13, 14, 9, 15, 16, 1, 27, 28, 29, 30, 31, 32, 33, 34, 35, 36, 37, 38, 39, 40, 41, 42, 43, 44, 45, 46, 47, 48, 49, 50, 51] (by decide +kernel) (by decide +kernel)
set_option maxRecDepth 20000 in
theorem gX10_isClaim_X10_comesOut : GoodIn wsX10_isClaim (wsV RX10 134 RX10 yX10_comesOut wsX10_comesOut) := goodIn_app (goodIn_of _ (by decide +kernel)) ggX10_isClaim_X10_comesOut
set_option maxRecDepth 20000 in
theorem ggX10_isClaim_X10_operator : GoodIn wsX10_isClaim wsX10_operator := goodIn_r _ [19] (by decide +kernel) (by decide +kernel)
set_option maxRecDepth 20000 in
theorem gX10_isClaim_X10_operator : GoodIn wsX10_isClaim (va_wsS RX10 137 yX10_operator wsX10_operator) := goodIn_app (goodIn_of _ (by decide +kernel)) ggX10_isClaim_X10_operator
set_option maxRecDepth 20000 in
theorem ggX10_isClaim_X10_waitsThen : GoodIn wsX10_isClaim wsX10_waitsThen := goodIn_r _ [23, 11, 2, 27, 28, 29, 30, 31, 32, 33, 34, 35, 36, 37, 38, 39, 40, 41, 42, 43, 44, 45, 46, 47, 48, 49, 50, 51] (by decide +kernel) (by decide +kernel)
set_option maxRecDepth 20000 in
theorem gX10_isClaim_X10_waitsThen : GoodIn wsX10_isClaim (wsV RX10 141 RX10 yX10_waitsThen wsX10_waitsThen) := goodIn_app (goodIn_of _ (by decide +kernel)) ggX10_isClaim_X10_waitsThen
set_option maxRecDepth 20000 in
theorem ggX10_isClaim_X10_operand : GoodIn wsX10_isClaim wsX10_operand := goodIn_r _ [26] (by decide +kernel) (by decide +kernel)
set_option maxRecDepth 20000 in
theorem gX10_isClaim_X10_operand : GoodIn wsX10_isClaim (va_wsS RX10 144 yX10_operand wsX10_operand) := goodIn_app (goodIn_of _ (by decide +kernel)) ggX10_isClaim_X10_operand
set_option maxRecDepth 20000 in
theorem ggX10_isClaim_X10_puts : GoodIn wsX10_isClaim wsX10_puts := goodIn_r _ [15, 16, 1, 27, 28, 29, 30, 31, 32, 33, 34, 35, 36, 37, 38, 39, 40, 41, 42, 43, 44, 45, 46, 47, 48, 49, 50, 51] (by decide +kernel) (by decide +kernel)
set_option maxRecDepth 20000 in
theorem gX10_isClaim_X10_puts : GoodIn wsX10_isClaim (wsV RX10 128 RX10 yX10_puts wsX10_puts) := goodIn_app (goodIn_of _ (by decide +kernel)) ggX10_isClaim_X10_puts
theorem dX10_isClaim_0 : decode cX10_isClaim 0 = .ok (.aload_n 0, 1) := by decide +kernel
theorem dX10_isClaim_1 : decode cX10_isClaim 1 = .ok (.iconst 0, 1) := by decide +kernel
theorem dX10_isClaim_2 : decode cX10_isClaim 2 = .ok (.putfield 122, 3) := by decide +kernel
theorem dX10_isClaim_5 : decode cX10_isClaim 5 = .ok (.aload_n 0, 1) := by decide +kernel
theorem dX10_isClaim_6 : decode cX10_isClaim 6 = .ok (.iconst 0, 1) := by decide +kernel
theorem dX10_isClaim_7 : decode cX10_isClaim 7 = .ok (.putfield 125, 3) := by decide +kernel
theorem dX10_isClaim_10 : decode cX10_isClaim 10 = .ok (.iconst 0, 1) := by decide +kernel
theorem dX10_isClaim_11 : decode cX10_isClaim 11 = .ok (.istore_n 1, 1) := by decide +kernel
theorem dX10_isClaim_12 : decode cX10_isClaim 12 = .ok (.iconst 0, 1) := by decide +kernel
theorem dX10_isClaim_13 : decode cX10_isClaim 13 = .ok (.istore_n 2, 1) := by decide +kernel
theorem dX10_isClaim_14 : decode cX10_isClaim 14 = .ok (.aload_n 0, 1) := by decide +kernel
theorem dX10_isClaim_15 : decode cX10_isClaim 15 = .ok (.iconst 0, 1) := by decide +kernel
theorem dX10_isClaim_16 : decode cX10_isClaim 16 = .ok (.putfield 131, 3) := by decide +kernel
theorem dX10_isClaim_19 : decode cX10_isClaim 19 = .ok (.aload_n 0, 1) := by decide +kernel
theorem dX10_isClaim_20 : decode cX10_isClaim 20 = .ok (.getfield 131, 3) := by decide +kernel
theorem dX10_isClaim_23 : decode cX10_isClaim 23 = .ok (.aload_n 0, 1) := by decide +kernel
theorem dX10_isClaim_24 : decode cX10_isClaim 24 = .ok (.getfield 119, 3) := by decide +kernel
theorem dX10_isClaim_27 : decode cX10_isClaim 27 = .ok (.if_icmp .ge 157, 3) := by decide +kernel
theorem dX10_isClaim_30 : decode cX10_isClaim 30 = .ok (.aload_n 0, 1) := by decide +kernel
theorem dX10_isClaim_31 : decode cX10_isClaim 31 = .ok (.getfield 25, 3) := by decide +kernel
theorem dX10_isClaim_34 : decode cX10_isClaim 34 = .ok (.aload_n 0, 1) := by decide +kernel
theorem dX10_isClaim_35 : decode cX10_isClaim 35 = .ok (.getfield 131, 3) := by decide +kernel
theorem dX10_isClaim_38 : decode cX10_isClaim 38 = .ok (.caload, 1) := by decide +kernel
theorem dX10_isClaim_39 : decode cX10_isClaim 39 = .ok (.istore_n 3, 1) := by decide +kernel
theorem dX10_isClaim_40 : decode cX10_isClaim 40 = .ok (.iload_n 2, 1) := by decide +kernel
theorem dX10_isClaim_41 : decode cX10_isClaim 41 = .ok (.ifCond .eq 67, 3) := by decide +kernel
theorem dX10_isClaim_44 : decode cX10_isClaim 44 = .ok (.iload_n 3, 1) := by decide +kernel
theorem dX10_isClaim_45 : decode cX10_isClaim 45 = .ok (.bipush 41, 2) := by decide +kernel
theorem dX10_isClaim_47 : decode cX10_isClaim 47 = .ok (.if_icmp .ne 29, 3) := by decide +kernel
theorem dX10_isClaim_50 : decode cX10_isClaim 50 = .ok (.iload_n 1, 1) := by decide +kernel
theorem dX10_isClaim_51 : decode cX10_isClaim 51 = .ok (.ifCond .le 25, 3) := by decide +kernel
theorem dX10_isClaim_54 : decode cX10_isClaim 54 = .ok (.aload_n 0, 1) := by decide +kernel
theorem dX10_isClaim_55 : decode cX10_isClaim 55 = .ok (.bipush 10, 2) := by decide +kernel
theorem dX10_isClaim_57 : decode cX10_isClaim 57 = .ok (.invokevirtual 134, 3) := by decide +kernel
theorem dX10_isClaim_60 : decode cX10_isClaim 60 = .ok (.aload_n 0, 1) := by decide +kernel
theorem dX10_isClaim_61 : decode cX10_isClaim 61 = .ok (.dup, 1) := by decide +kernel
theorem dX10_isClaim_62 : decode cX10_isClaim 62 = .ok (.getfield 125, 3) := by decide +kernel
theorem dX10_isClaim_65 : decode cX10_isClaim 65 = .ok (.iconst 1, 1) := by decide +kernel
theorem dX10_isClaim_66 : decode cX10_isClaim 66 = .ok (.isub, 1) := by decide +kernel
theorem dX10_isClaim_67 : decode cX10_isClaim 67 = .ok (.putfield 125, 3) := by decide +kernel
theorem dX10_isClaim_70 : decode cX10_isClaim 70 = .ok (.iinc 1 (-1), 3) := by decide +kernel
theorem dX10_isClaim_73 : decode cX10_isClaim 73 = .ok (.goto 98, 3) := by decide +kernel
theorem dX10_isClaim_76 : decode cX10_isClaim 76 = .ok (.iload_n 3, 1) := by decide +kernel
theorem dX10_isClaim_77 : decode cX10_isClaim 77 = .ok (.invokestatic 137, 3) := by decide +kernel
theorem dX10_isClaim_80 : decode cX10_isClaim 80 = .ok (.bipush (-5), 2) := by decide +kernel
theorem dX10_isClaim_82 : decode cX10_isClaim 82 = .ok (.if_icmp .eq 24, 3) := by decide +kernel
theorem dX10_isClaim_85 : decode cX10_isClaim 85 = .ok (.aload_n 0, 1) := by decide +kernel
theorem dX10_isClaim_86 : decode cX10_isClaim 86 = .ok (.iload_n 3, 1) := by decide +kernel
theorem dX10_isClaim_87 : decode cX10_isClaim 87 = .ok (.invokestatic 137, 3) := by decide +kernel
theorem dX10_isClaim_90 : decode cX10_isClaim 90 = .ok (.invokevirtual 134, 3) := by decide +kernel
theorem dX10_isClaim_93 : decode cX10_isClaim 93 = .ok (.aload_n 0, 1) := by decide +kernel
theorem dX10_isClaim_94 : decode cX10_isClaim 94 = .ok (.iload_n 3, 1) := by decide +kernel
theorem dX10_isClaim_95 : decode cX10_isClaim 95 = .ok (.invokestatic 137, 3) := by decide +kernel
theorem dX10_isClaim_98 : decode cX10_isClaim 98 = .ok (.invokevirtual 141, 3) := by decide +kernel
theorem dX10_isClaim_101 : decode cX10_isClaim 101 = .ok (.iconst 0, 1) := by decide +kernel
theorem dX10_isClaim_102 : decode cX10_isClaim 102 = .ok (.istore_n 2, 1) := by decide +kernel
theorem dX10_isClaim_103 : decode cX10_isClaim 103 = .ok (.goto 68, 3) := by decide +kernel
theorem dX10_isClaim_106 : decode cX10_isClaim 106 = .ok (.iconst 0, 1) := by decide +kernel
theorem dX10_isClaim_107 : decode cX10_isClaim 107 = .ok (.ireturn, 1) := by decide +kernel
theorem dX10_isClaim_108 : decode cX10_isClaim 108 = .ok (.iload_n 3, 1) := by decide +kernel
theorem dX10_isClaim_109 : decode cX10_isClaim 109 = .ok (.bipush 126, 2) := by decide +kernel
theorem dX10_isClaim_111 : decode cX10_isClaim 111 = .ok (.if_icmp .ne 12, 3) := by decide +kernel
theorem dX10_isClaim_114 : decode cX10_isClaim 114 = .ok (.aload_n 0, 1) := by decide +kernel
theorem dX10_isClaim_115 : decode cX10_isClaim 115 = .ok (.bipush 6, 2) := by decide +kernel
theorem dX10_isClaim_117 : decode cX10_isClaim 117 = .ok (.invokevirtual 141, 3) := by decide +kernel
theorem dX10_isClaim_120 : decode cX10_isClaim 120 = .ok (.goto 51, 3) := by decide +kernel
theorem dX10_isClaim_123 : decode cX10_isClaim 123 = .ok (.iload_n 3, 1) := by decide +kernel
theorem dX10_isClaim_124 : decode cX10_isClaim 124 = .ok (.bipush 40, 2) := by decide +kernel
theorem dX10_isClaim_126 : decode cX10_isClaim 126 = .ok (.if_icmp .ne 21, 3) := by decide +kernel
theorem dX10_isClaim_129 : decode cX10_isClaim 129 = .ok (.iload_n 1, 1) := by decide +kernel
theorem dX10_isClaim_130 : decode cX10_isClaim 130 = .ok (.bipush 6, 2) := by decide +kernel
theorem dX10_isClaim_132 : decode cX10_isClaim 132 = .ok (.if_icmp .ge 15, 3) := by decide +kernel
theorem dX10_isClaim_135 : decode cX10_isClaim 135 = .ok (.aload_n 0, 1) := by decide +kernel
theorem dX10_isClaim_136 : decode cX10_isClaim 136 = .ok (.bipush 10, 2) := by decide +kernel
theorem dX10_isClaim_138 : decode cX10_isClaim 138 = .ok (.invokevirtual 141, 3) := by decide +kernel
theorem dX10_isClaim_141 : decode cX10_isClaim 141 = .ok (.iinc 1 1, 3) := by decide +kernel
theorem dX10_isClaim_144 : decode cX10_isClaim 144 = .ok (.goto 27, 3) := by decide +kernel
theorem dX10_isClaim_147 : decode cX10_isClaim 147 = .ok (.iload_n 3, 1) := by decide +kernel
theorem dX10_isClaim_148 : decode cX10_isClaim 148 = .ok (.invokestatic 144, 3) := by decide +kernel
theorem dX10_isClaim_151 : decode cX10_isClaim 151 = .ok (.bipush (-5), 2) := by decide +kernel
theorem dX10_isClaim_153 : decode cX10_isClaim 153 = .ok (.if_icmp .eq 16, 3) := by decide +kernel
theorem dX10_isClaim_156 : decode cX10_isClaim 156 = .ok (.aload_n 0, 1) := by decide +kernel
theorem dX10_isClaim_157 : decode cX10_isClaim 157 = .ok (.iload_n 3, 1) := by decide +kernel
theorem dX10_isClaim_158 : decode cX10_isClaim 158 = .ok (.invokestatic 144, 3) := by decide +kernel
theorem dX10_isClaim_161 : decode cX10_isClaim 161 = .ok (.invokevirtual 128, 3) := by decide +kernel
theorem dX10_isClaim_164 : decode cX10_isClaim 164 = .ok (.iconst 1, 1) := by decide +kernel
theorem dX10_isClaim_165 : decode cX10_isClaim 165 = .ok (.istore_n 2, 1) := by decide +kernel
theorem dX10_isClaim_166 : decode cX10_isClaim 166 = .ok (.goto 5, 3) := by decide +kernel
theorem dX10_isClaim_169 : decode cX10_isClaim 169 = .ok (.iconst 0, 1) := by decide +kernel
theorem dX10_isClaim_170 : decode cX10_isClaim 170 = .ok (.ireturn, 1) := by decide +kernel
theorem dX10_isClaim_171 : decode cX10_isClaim 171 = .ok (.aload_n 0, 1) := by decide +kernel
theorem dX10_isClaim_172 : decode cX10_isClaim 172 = .ok (.dup, 1) := by decide +kernel
theorem dX10_isClaim_173 : decode cX10_isClaim 173 = .ok (.getfield 131, 3) := by decide +kernel
theorem dX10_isClaim_176 : decode cX10_isClaim 176 = .ok (.iconst 1, 1) := by decide +kernel
theorem dX10_isClaim_177 : decode cX10_isClaim 177 = .ok (.iadd, 1) := by decide +kernel
theorem dX10_isClaim_178 : decode cX10_isClaim 178 = .ok (.putfield 131, 3) := by decide +kernel
theorem dX10_isClaim_181 : decode cX10_isClaim 181 = .ok (.goto (-162), 3) := by decide +kernel
theorem dX10_isClaim_184 : decode cX10_isClaim 184 = .ok (.iload_n 2, 1) := by decide +kernel
theorem dX10_isClaim_185 : decode cX10_isClaim 185 = .ok (.ifCond .eq 7, 3) := by decide +kernel
theorem dX10_isClaim_188 : decode cX10_isClaim 188 = .ok (.iload_n 1, 1) := by decide +kernel
theorem dX10_isClaim_189 : decode cX10_isClaim 189 = .ok (.ifCond .le 5, 3) := by decide +kernel
theorem dX10_isClaim_192 : decode cX10_isClaim 192 = .ok (.iconst 0, 1) := by decide +kernel
theorem dX10_isClaim_193 : decode cX10_isClaim 193 = .ok (.ireturn, 1) := by decide +kernel
theorem dX10_isClaim_194 : decode cX10_isClaim 194 = .ok (.aload_n 0, 1) := by decide +kernel
theorem dX10_isClaim_195 : decode cX10_isClaim 195 = .ok (.bipush 10, 2) := by decide +kernel
theorem dX10_isClaim_197 : decode cX10_isClaim 197 = .ok (.invokevirtual 134, 3) := by decide +kernel
theorem dX10_isClaim_200 : decode cX10_isClaim 200 = .ok (.iconst 1, 1) := by decide +kernel
theorem dX10_isClaim_201 : decode cX10_isClaim 201 = .ok (.ireturn, 1) := by decide +kernel
set_option maxRecDepth 20000 in
theorem ggX10_holding_X10_knownAt : GoodIn wsX10_holding wsX10_knownAt := goodIn_r _ [7, 1, 12, 13, 14, 15, 16, 17, 18, 19, 20, 21, 22, 23, 24, 25, 26, 27, 28, 29, 30, 31, 32, 33, 34, 35, 36] (by decide +kernel) (by decide +kernel)
set_option maxRecDepth 20000 in
theorem gX10_holding_X10_knownAt : GoodIn wsX10_holding (wsV RX10 99 RX10 yX10_knownAt wsX10_knownAt) := goodIn_app (goodIn_of _ (by decide +kernel)) ggX10_holding_X10_knownAt
set_option maxRecDepth 20000 in
theorem ggX10_holding_X10_always : GoodIn wsX10_holding wsX10_always := goodIn_r _ [11, 1, 12, 13, 14, 15, 16, 17, 18, 19, 20, 21, 22, 23, 24, 25, 26, 27, 28, 29, 30, 31, 32, 33, 34, 35, 36] (by decide +kernel) (by decide +kernel)
set_option maxRecDepth 20000 in
theorem gX10_holding_X10_always : GoodIn wsX10_holding (wsV RX10 147 RX10 yX10_always wsX10_always) := goodIn_app (goodIn_of _ (by decide +kernel)) ggX10_holding_X10_always
theorem dX10_holding_0 : decode cX10_holding 0 = .ok (.bipush 17, 2) := by decide +kernel
theorem dX10_holding_2 : decode cX10_holding 2 = .ok (.bipush 31, 2) := by decide +kernel
theorem dX10_holding_4 : decode cX10_holding 4 = .ok (.iload_n 1, 1) := by decide +kernel
theorem dX10_holding_5 : decode cX10_holding 5 = .ok (.imul, 1) := by decide +kernel
theorem dX10_holding_6 : decode cX10_holding 6 = .ok (.iadd, 1) := by decide +kernel
theorem dX10_holding_7 : decode cX10_holding 7 = .ok (.istore_n 2, 1) := by decide +kernel
theorem dX10_holding_8 : decode cX10_holding 8 = .ok (.iconst 1, 1) := by decide +kernel
theorem dX10_holding_9 : decode cX10_holding 9 = .ok (.aload_n 0, 1) := by decide +kernel
theorem dX10_holding_10 : decode cX10_holding 10 = .ok (.getfield 7, 3) := by decide +kernel
theorem dX10_holding_13 : decode cX10_holding 13 = .ok (.bipush 16, 2) := by decide +kernel
theorem dX10_holding_15 : decode cX10_holding 15 = .ok (.iaload, 1) := by decide +kernel
theorem dX10_holding_16 : decode cX10_holding 16 = .ok (.ishl, 1) := by decide +kernel
theorem dX10_holding_17 : decode cX10_holding 17 = .ok (.iconst 1, 1) := by decide +kernel
theorem dX10_holding_18 : decode cX10_holding 18 = .ok (.isub, 1) := by decide +kernel
theorem dX10_holding_19 : decode cX10_holding 19 = .ok (.istore_n 3, 1) := by decide +kernel
theorem dX10_holding_20 : decode cX10_holding 20 = .ok (.iconst 0, 1) := by decide +kernel
theorem dX10_holding_21 : decode cX10_holding 21 = .ok (.istore 4, 2) := by decide +kernel
theorem dX10_holding_23 : decode cX10_holding 23 = .ok (.iconst 1, 1) := by decide +kernel
theorem dX10_holding_24 : decode cX10_holding 24 = .ok (.istore 5, 2) := by decide +kernel
theorem dX10_holding_26 : decode cX10_holding 26 = .ok (.iload 5, 2) := by decide +kernel
theorem dX10_holding_28 : decode cX10_holding 28 = .ok (.aload_n 0, 1) := by decide +kernel
theorem dX10_holding_29 : decode cX10_holding 29 = .ok (.getfield 7, 3) := by decide +kernel
theorem dX10_holding_32 : decode cX10_holding 32 = .ok (.iload_n 2, 1) := by decide +kernel
theorem dX10_holding_33 : decode cX10_holding 33 = .ok (.iaload, 1) := by decide +kernel
theorem dX10_holding_34 : decode cX10_holding 34 = .ok (.if_icmp .gt 177, 3) := by decide +kernel
theorem dX10_holding_37 : decode cX10_holding 37 = .ok (.aload_n 0, 1) := by decide +kernel
theorem dX10_holding_38 : decode cX10_holding 38 = .ok (.getfield 7, 3) := by decide +kernel
theorem dX10_holding_41 : decode cX10_holding 41 = .ok (.iload_n 2, 1) := by decide +kernel
theorem dX10_holding_42 : decode cX10_holding 42 = .ok (.iload 5, 2) := by decide +kernel
theorem dX10_holding_44 : decode cX10_holding 44 = .ok (.iadd, 1) := by decide +kernel
theorem dX10_holding_45 : decode cX10_holding 45 = .ok (.iaload, 1) := by decide +kernel
theorem dX10_holding_46 : decode cX10_holding 46 = .ok (.istore 6, 2) := by decide +kernel
theorem dX10_holding_48 : decode cX10_holding 48 = .ok (.iload 6, 2) := by decide +kernel
theorem dX10_holding_50 : decode cX10_holding 50 = .ok (.bipush 6, 2) := by decide +kernel
theorem dX10_holding_52 : decode cX10_holding 52 = .ok (.if_icmp .ge 42, 3) := by decide +kernel
theorem dX10_holding_55 : decode cX10_holding 55 = .ok (.aload_n 0, 1) := by decide +kernel
theorem dX10_holding_56 : decode cX10_holding 56 = .ok (.getfield 35, 3) := by decide +kernel
theorem dX10_holding_59 : decode cX10_holding 59 = .ok (.iload 4, 2) := by decide +kernel
theorem dX10_holding_61 : decode cX10_holding 61 = .ok (.iload 6, 2) := by decide +kernel
theorem dX10_holding_63 : decode cX10_holding 63 = .ok (.iconst 4, 1) := by decide +kernel
theorem dX10_holding_64 : decode cX10_holding 64 = .ok (.if_icmp .ge 12, 3) := by decide +kernel
theorem dX10_holding_67 : decode cX10_holding 67 = .ok (.aload_n 0, 1) := by decide +kernel
theorem dX10_holding_68 : decode cX10_holding 68 = .ok (.iload 6, 2) := by decide +kernel
theorem dX10_holding_70 : decode cX10_holding 70 = .ok (.invokevirtual 99, 3) := by decide +kernel
theorem dX10_holding_73 : decode cX10_holding 73 = .ok (.goto 14, 3) := by decide +kernel
theorem dX10_holding_76 : decode cX10_holding 76 = .ok (.iload 6, 2) := by decide +kernel
theorem dX10_holding_78 : decode cX10_holding 78 = .ok (.iconst 4, 1) := by decide +kernel
theorem dX10_holding_79 : decode cX10_holding 79 = .ok (.if_icmp .ne 7, 3) := by decide +kernel
theorem dX10_holding_82 : decode cX10_holding 82 = .ok (.iload_n 3, 1) := by decide +kernel
theorem dX10_holding_83 : decode cX10_holding 83 = .ok (.goto 4, 3) := by decide +kernel
theorem dX10_holding_86 : decode cX10_holding 86 = .ok (.iconst 0, 1) := by decide +kernel
theorem dX10_holding_87 : decode cX10_holding 87 = .ok (.iastore, 1) := by decide +kernel
theorem dX10_holding_88 : decode cX10_holding 88 = .ok (.iinc 4 1, 3) := by decide +kernel
theorem dX10_holding_91 : decode cX10_holding 91 = .ok (.goto 114, 3) := by decide +kernel
theorem dX10_holding_94 : decode cX10_holding 94 = .ok (.iload 6, 2) := by decide +kernel
theorem dX10_holding_96 : decode cX10_holding 96 = .ok (.bipush 6, 2) := by decide +kernel
theorem dX10_holding_98 : decode cX10_holding 98 = .ok (.if_icmp .ne 32, 3) := by decide +kernel
theorem dX10_holding_101 : decode cX10_holding 101 = .ok (.aload_n 0, 1) := by decide +kernel
theorem dX10_holding_102 : decode cX10_holding 102 = .ok (.getfield 35, 3) := by decide +kernel
theorem dX10_holding_105 : decode cX10_holding 105 = .ok (.iload 4, 2) := by decide +kernel
theorem dX10_holding_107 : decode cX10_holding 107 = .ok (.iconst 1, 1) := by decide +kernel
theorem dX10_holding_108 : decode cX10_holding 108 = .ok (.isub, 1) := by decide +kernel
theorem dX10_holding_109 : decode cX10_holding 109 = .ok (.aload_n 0, 1) := by decide +kernel
theorem dX10_holding_110 : decode cX10_holding 110 = .ok (.iload_n 3, 1) := by decide +kernel
theorem dX10_holding_111 : decode cX10_holding 111 = .ok (.aload_n 0, 1) := by decide +kernel
theorem dX10_holding_112 : decode cX10_holding 112 = .ok (.getfield 35, 3) := by decide +kernel
theorem dX10_holding_115 : decode cX10_holding 115 = .ok (.iload 4, 2) := by decide +kernel
theorem dX10_holding_117 : decode cX10_holding 117 = .ok (.iconst 1, 1) := by decide +kernel
theorem dX10_holding_118 : decode cX10_holding 118 = .ok (.isub, 1) := by decide +kernel
theorem dX10_holding_119 : decode cX10_holding 119 = .ok (.iaload, 1) := by decide +kernel
theorem dX10_holding_120 : decode cX10_holding 120 = .ok (.iconst (-1), 1) := by decide +kernel
theorem dX10_holding_121 : decode cX10_holding 121 = .ok (.ixor, 1) := by decide +kernel
theorem dX10_holding_122 : decode cX10_holding 122 = .ok (.iand, 1) := by decide +kernel
theorem dX10_holding_123 : decode cX10_holding 123 = .ok (.invokevirtual 147, 3) := by decide +kernel
theorem dX10_holding_126 : decode cX10_holding 126 = .ok (.iastore, 1) := by decide +kernel
theorem dX10_holding_127 : decode cX10_holding 127 = .ok (.goto 78, 3) := by decide +kernel
theorem dX10_holding_130 : decode cX10_holding 130 = .ok (.iinc 4 (-1), 3) := by decide +kernel
theorem dX10_holding_133 : decode cX10_holding 133 = .ok (.aload_n 0, 1) := by decide +kernel
theorem dX10_holding_134 : decode cX10_holding 134 = .ok (.getfield 35, 3) := by decide +kernel
theorem dX10_holding_137 : decode cX10_holding 137 = .ok (.iload 4, 2) := by decide +kernel
theorem dX10_holding_139 : decode cX10_holding 139 = .ok (.iconst 1, 1) := by decide +kernel
theorem dX10_holding_140 : decode cX10_holding 140 = .ok (.isub, 1) := by decide +kernel
theorem dX10_holding_141 : decode cX10_holding 141 = .ok (.iaload, 1) := by decide +kernel
theorem dX10_holding_142 : decode cX10_holding 142 = .ok (.istore 7, 2) := by decide +kernel
theorem dX10_holding_144 : decode cX10_holding 144 = .ok (.aload_n 0, 1) := by decide +kernel
theorem dX10_holding_145 : decode cX10_holding 145 = .ok (.getfield 35, 3) := by decide +kernel
theorem dX10_holding_148 : decode cX10_holding 148 = .ok (.iload 4, 2) := by decide +kernel
theorem dX10_holding_150 : decode cX10_holding 150 = .ok (.iaload, 1) := by decide +kernel
theorem dX10_holding_151 : decode cX10_holding 151 = .ok (.istore 8, 2) := by decide +kernel
theorem dX10_holding_153 : decode cX10_holding 153 = .ok (.aload_n 0, 1) := by decide +kernel
theorem dX10_holding_154 : decode cX10_holding 154 = .ok (.getfield 35, 3) := by decide +kernel
theorem dX10_holding_157 : decode cX10_holding 157 = .ok (.iload 4, 2) := by decide +kernel
theorem dX10_holding_159 : decode cX10_holding 159 = .ok (.iconst 1, 1) := by decide +kernel
theorem dX10_holding_160 : decode cX10_holding 160 = .ok (.isub, 1) := by decide +kernel
theorem dX10_holding_161 : decode cX10_holding 161 = .ok (.iload 6, 2) := by decide +kernel
theorem dX10_holding_163 : decode cX10_holding 163 = .ok (.bipush 7, 2) := by decide +kernel
theorem dX10_holding_165 : decode cX10_holding 165 = .ok (.if_icmp .ne 11, 3) := by decide +kernel
theorem dX10_holding_168 : decode cX10_holding 168 = .ok (.iload 7, 2) := by decide +kernel
theorem dX10_holding_170 : decode cX10_holding 170 = .ok (.iload 8, 2) := by decide +kernel
theorem dX10_holding_172 : decode cX10_holding 172 = .ok (.iand, 1) := by decide +kernel
theorem dX10_holding_173 : decode cX10_holding 173 = .ok (.goto 31, 3) := by decide +kernel
theorem dX10_holding_176 : decode cX10_holding 176 = .ok (.iload 6, 2) := by decide +kernel
theorem dX10_holding_178 : decode cX10_holding 178 = .ok (.bipush 8, 2) := by decide +kernel
theorem dX10_holding_180 : decode cX10_holding 180 = .ok (.if_icmp .ne 11, 3) := by decide +kernel
theorem dX10_holding_183 : decode cX10_holding 183 = .ok (.iload 7, 2) := by decide +kernel
theorem dX10_holding_185 : decode cX10_holding 185 = .ok (.iload 8, 2) := by decide +kernel
theorem dX10_holding_187 : decode cX10_holding 187 = .ok (.ior, 1) := by decide +kernel
theorem dX10_holding_188 : decode cX10_holding 188 = .ok (.goto 16, 3) := by decide +kernel
theorem dX10_holding_191 : decode cX10_holding 191 = .ok (.aload_n 0, 1) := by decide +kernel
theorem dX10_holding_192 : decode cX10_holding 192 = .ok (.iload_n 3, 1) := by decide +kernel
theorem dX10_holding_193 : decode cX10_holding 193 = .ok (.iload 7, 2) := by decide +kernel
theorem dX10_holding_195 : decode cX10_holding 195 = .ok (.iconst (-1), 1) := by decide +kernel
theorem dX10_holding_196 : decode cX10_holding 196 = .ok (.ixor, 1) := by decide +kernel
theorem dX10_holding_197 : decode cX10_holding 197 = .ok (.iand, 1) := by decide +kernel
theorem dX10_holding_198 : decode cX10_holding 198 = .ok (.iload 8, 2) := by decide +kernel
theorem dX10_holding_200 : decode cX10_holding 200 = .ok (.ior, 1) := by decide +kernel
theorem dX10_holding_201 : decode cX10_holding 201 = .ok (.invokevirtual 147, 3) := by decide +kernel
theorem dX10_holding_204 : decode cX10_holding 204 = .ok (.iastore, 1) := by decide +kernel
theorem dX10_holding_205 : decode cX10_holding 205 = .ok (.iinc 5 1, 3) := by decide +kernel
theorem dX10_holding_208 : decode cX10_holding 208 = .ok (.goto (-182), 3) := by decide +kernel
theorem dX10_holding_211 : decode cX10_holding 211 = .ok (.aload_n 0, 1) := by decide +kernel
theorem dX10_holding_212 : decode cX10_holding 212 = .ok (.getfield 35, 3) := by decide +kernel
theorem dX10_holding_215 : decode cX10_holding 215 = .ok (.iconst 0, 1) := by decide +kernel
theorem dX10_holding_216 : decode cX10_holding 216 = .ok (.iaload, 1) := by decide +kernel
theorem dX10_holding_217 : decode cX10_holding 217 = .ok (.ireturn, 1) := by decide +kernel
theorem dX10_always_0 : decode cX10_always 0 = .ok (.iconst 0, 1) := by decide +kernel
theorem dX10_always_1 : decode cX10_always 1 = .ok (.istore_n 2, 1) := by decide +kernel
theorem dX10_always_2 : decode cX10_always 2 = .ok (.iconst 0, 1) := by decide +kernel
theorem dX10_always_3 : decode cX10_always 3 = .ok (.istore_n 3, 1) := by decide +kernel
theorem dX10_always_4 : decode cX10_always 4 = .ok (.iload_n 3, 1) := by decide +kernel
theorem dX10_always_5 : decode cX10_always 5 = .ok (.aload_n 0, 1) := by decide +kernel
theorem dX10_always_6 : decode cX10_always 6 = .ok (.getfield 7, 3) := by decide +kernel
theorem dX10_always_9 : decode cX10_always 9 = .ok (.bipush 16, 2) := by decide +kernel
theorem dX10_always_11 : decode cX10_always 11 = .ok (.iaload, 1) := by decide +kernel
theorem dX10_always_12 : decode cX10_always 12 = .ok (.if_icmp .ge 34, 3) := by decide +kernel
theorem dX10_always_15 : decode cX10_always 15 = .ok (.iload_n 2, 1) := by decide +kernel
theorem dX10_always_16 : decode cX10_always 16 = .ok (.aload_n 0, 1) := by decide +kernel
theorem dX10_always_17 : decode cX10_always 17 = .ok (.getfield 7, 3) := by decide +kernel
theorem dX10_always_20 : decode cX10_always 20 = .ok (.iconst 0, 1) := by decide +kernel
theorem dX10_always_21 : decode cX10_always 21 = .ok (.iload_n 3, 1) := by decide +kernel
theorem dX10_always_22 : decode cX10_always 22 = .ok (.iadd, 1) := by decide +kernel
theorem dX10_always_23 : decode cX10_always 23 = .ok (.iaload, 1) := by decide +kernel
theorem dX10_always_24 : decode cX10_always 24 = .ok (.iload_n 1, 1) := by decide +kernel
theorem dX10_always_25 : decode cX10_always 25 = .ok (.iconst (-1), 1) := by decide +kernel
theorem dX10_always_26 : decode cX10_always 26 = .ok (.ixor, 1) := by decide +kernel
theorem dX10_always_27 : decode cX10_always 27 = .ok (.iand, 1) := by decide +kernel
theorem dX10_always_28 : decode cX10_always 28 = .ok (.ifCond .ne 9, 3) := by decide +kernel
theorem dX10_always_31 : decode cX10_always 31 = .ok (.iconst 1, 1) := by decide +kernel
theorem dX10_always_32 : decode cX10_always 32 = .ok (.iload_n 3, 1) := by decide +kernel
theorem dX10_always_33 : decode cX10_always 33 = .ok (.ishl, 1) := by decide +kernel
theorem dX10_always_34 : decode cX10_always 34 = .ok (.goto 4, 3) := by decide +kernel
theorem dX10_always_37 : decode cX10_always 37 = .ok (.iconst 0, 1) := by decide +kernel
theorem dX10_always_38 : decode cX10_always 38 = .ok (.ior, 1) := by decide +kernel
theorem dX10_always_39 : decode cX10_always 39 = .ok (.istore_n 2, 1) := by decide +kernel
theorem dX10_always_40 : decode cX10_always 40 = .ok (.iinc 3 1, 3) := by decide +kernel
theorem dX10_always_43 : decode cX10_always 43 = .ok (.goto (-39), 3) := by decide +kernel
theorem dX10_always_46 : decode cX10_always 46 = .ok (.iload_n 2, 1) := by decide +kernel
theorem dX10_always_47 : decode cX10_always 47 = .ok (.ireturn, 1) := by decide +kernel
theorem dX10_isSame_0 : decode cX10_isSame 0 = .ok (.bipush 17, 2) := by decide +kernel
theorem dX10_isSame_2 : decode cX10_isSame 2 = .ok (.bipush 31, 2) := by decide +kernel
theorem dX10_isSame_4 : decode cX10_isSame 4 = .ok (.iload_n 1, 1) := by decide +kernel
theorem dX10_isSame_5 : decode cX10_isSame 5 = .ok (.imul, 1) := by decide +kernel
theorem dX10_isSame_6 : decode cX10_isSame 6 = .ok (.iadd, 1) := by decide +kernel
theorem dX10_isSame_7 : decode cX10_isSame 7 = .ok (.istore_n 2, 1) := by decide +kernel
theorem dX10_isSame_8 : decode cX10_isSame 8 = .ok (.aload_n 0, 1) := by decide +kernel
theorem dX10_isSame_9 : decode cX10_isSame 9 = .ok (.getfield 7, 3) := by decide +kernel
theorem dX10_isSame_12 : decode cX10_isSame 12 = .ok (.iload_n 2, 1) := by decide +kernel
theorem dX10_isSame_13 : decode cX10_isSame 13 = .ok (.iaload, 1) := by decide +kernel
theorem dX10_isSame_14 : decode cX10_isSame 14 = .ok (.aload_n 0, 1) := by decide +kernel
theorem dX10_isSame_15 : decode cX10_isSame 15 = .ok (.getfield 122, 3) := by decide +kernel
theorem dX10_isSame_18 : decode cX10_isSame 18 = .ok (.if_icmp .ne 7, 3) := by decide +kernel
theorem dX10_isSame_21 : decode cX10_isSame 21 = .ok (.iconst 1, 1) := by decide +kernel
theorem dX10_isSame_22 : decode cX10_isSame 22 = .ok (.goto 4, 3) := by decide +kernel
theorem dX10_isSame_25 : decode cX10_isSame 25 = .ok (.iconst 0, 1) := by decide +kernel
theorem dX10_isSame_26 : decode cX10_isSame 26 = .ok (.istore_n 3, 1) := by decide +kernel
theorem dX10_isSame_27 : decode cX10_isSame 27 = .ok (.iconst 0, 1) := by decide +kernel
theorem dX10_isSame_28 : decode cX10_isSame 28 = .ok (.istore 4, 2) := by decide +kernel
theorem dX10_isSame_30 : decode cX10_isSame 30 = .ok (.iload 4, 2) := by decide +kernel
theorem dX10_isSame_32 : decode cX10_isSame 32 = .ok (.aload_n 0, 1) := by decide +kernel
theorem dX10_isSame_33 : decode cX10_isSame 33 = .ok (.getfield 122, 3) := by decide +kernel
theorem dX10_isSame_36 : decode cX10_isSame 36 = .ok (.if_icmp .ge 40, 3) := by decide +kernel
theorem dX10_isSame_39 : decode cX10_isSame 39 = .ok (.iload_n 3, 1) := by decide +kernel
theorem dX10_isSame_40 : decode cX10_isSame 40 = .ok (.ifCond .eq 36, 3) := by decide +kernel
theorem dX10_isSame_43 : decode cX10_isSame 43 = .ok (.aload_n 0, 1) := by decide +kernel
theorem dX10_isSame_44 : decode cX10_isSame 44 = .ok (.getfield 7, 3) := by decide +kernel
theorem dX10_isSame_47 : decode cX10_isSame 47 = .ok (.iload_n 2, 1) := by decide +kernel
theorem dX10_isSame_48 : decode cX10_isSame 48 = .ok (.iconst 1, 1) := by decide +kernel
theorem dX10_isSame_49 : decode cX10_isSame 49 = .ok (.iadd, 1) := by decide +kernel
theorem dX10_isSame_50 : decode cX10_isSame 50 = .ok (.iload 4, 2) := by decide +kernel
theorem dX10_isSame_52 : decode cX10_isSame 52 = .ok (.iadd, 1) := by decide +kernel
theorem dX10_isSame_53 : decode cX10_isSame 53 = .ok (.iaload, 1) := by decide +kernel
theorem dX10_isSame_54 : decode cX10_isSame 54 = .ok (.aload_n 0, 1) := by decide +kernel
theorem dX10_isSame_55 : decode cX10_isSame 55 = .ok (.getfield 29, 3) := by decide +kernel
theorem dX10_isSame_58 : decode cX10_isSame 58 = .ok (.iload 4, 2) := by decide +kernel
theorem dX10_isSame_60 : decode cX10_isSame 60 = .ok (.iaload, 1) := by decide +kernel
theorem dX10_isSame_61 : decode cX10_isSame 61 = .ok (.if_icmp .ne 7, 3) := by decide +kernel
theorem dX10_isSame_64 : decode cX10_isSame 64 = .ok (.iconst 1, 1) := by decide +kernel
theorem dX10_isSame_65 : decode cX10_isSame 65 = .ok (.goto 4, 3) := by decide +kernel
theorem dX10_isSame_68 : decode cX10_isSame 68 = .ok (.iconst 0, 1) := by decide +kernel
theorem dX10_isSame_69 : decode cX10_isSame 69 = .ok (.istore_n 3, 1) := by decide +kernel
theorem dX10_isSame_70 : decode cX10_isSame 70 = .ok (.iinc 4 1, 3) := by decide +kernel
theorem dX10_isSame_73 : decode cX10_isSame 73 = .ok (.goto (-43), 3) := by decide +kernel
theorem dX10_isSame_76 : decode cX10_isSame 76 = .ok (.iload_n 3, 1) := by decide +kernel
theorem dX10_isSame_77 : decode cX10_isSame 77 = .ok (.ireturn, 1) := by decide +kernel
theorem dX10_lays_0 : decode cX10_lays 0 = .ok (.bipush 17, 2) := by decide +kernel
theorem dX10_lays_2 : decode cX10_lays 2 = .ok (.bipush 31, 2) := by decide +kernel
theorem dX10_lays_4 : decode cX10_lays 4 = .ok (.iload_n 1, 1) := by decide +kernel
theorem dX10_lays_5 : decode cX10_lays 5 = .ok (.imul, 1) := by decide +kernel
theorem dX10_lays_6 : decode cX10_lays 6 = .ok (.iadd, 1) := by decide +kernel
theorem dX10_lays_7 : decode cX10_lays 7 = .ok (.istore_n 2, 1) := by decide +kernel
theorem dX10_lays_8 : decode cX10_lays 8 = .ok (.aload_n 0, 1) := by decide +kernel
theorem dX10_lays_9 : decode cX10_lays 9 = .ok (.getfield 7, 3) := by decide +kernel
theorem dX10_lays_12 : decode cX10_lays 12 = .ok (.iload_n 2, 1) := by decide +kernel
theorem dX10_lays_13 : decode cX10_lays 13 = .ok (.aload_n 0, 1) := by decide +kernel
theorem dX10_lays_14 : decode cX10_lays 14 = .ok (.getfield 122, 3) := by decide +kernel
theorem dX10_lays_17 : decode cX10_lays 17 = .ok (.iastore, 1) := by decide +kernel
theorem dX10_lays_18 : decode cX10_lays 18 = .ok (.iconst 0, 1) := by decide +kernel
theorem dX10_lays_19 : decode cX10_lays 19 = .ok (.istore_n 3, 1) := by decide +kernel
theorem dX10_lays_20 : decode cX10_lays 20 = .ok (.iload_n 3, 1) := by decide +kernel
theorem dX10_lays_21 : decode cX10_lays 21 = .ok (.aload_n 0, 1) := by decide +kernel
theorem dX10_lays_22 : decode cX10_lays 22 = .ok (.getfield 122, 3) := by decide +kernel
theorem dX10_lays_25 : decode cX10_lays 25 = .ok (.if_icmp .ge 25, 3) := by decide +kernel
theorem dX10_lays_28 : decode cX10_lays 28 = .ok (.aload_n 0, 1) := by decide +kernel
theorem dX10_lays_29 : decode cX10_lays 29 = .ok (.getfield 7, 3) := by decide +kernel
theorem dX10_lays_32 : decode cX10_lays 32 = .ok (.iload_n 2, 1) := by decide +kernel
theorem dX10_lays_33 : decode cX10_lays 33 = .ok (.iconst 1, 1) := by decide +kernel
theorem dX10_lays_34 : decode cX10_lays 34 = .ok (.iadd, 1) := by decide +kernel
theorem dX10_lays_35 : decode cX10_lays 35 = .ok (.iload_n 3, 1) := by decide +kernel
theorem dX10_lays_36 : decode cX10_lays 36 = .ok (.iadd, 1) := by decide +kernel
theorem dX10_lays_37 : decode cX10_lays 37 = .ok (.aload_n 0, 1) := by decide +kernel
theorem dX10_lays_38 : decode cX10_lays 38 = .ok (.getfield 29, 3) := by decide +kernel
theorem dX10_lays_41 : decode cX10_lays 41 = .ok (.iload_n 3, 1) := by decide +kernel
theorem dX10_lays_42 : decode cX10_lays 42 = .ok (.iaload, 1) := by decide +kernel
theorem dX10_lays_43 : decode cX10_lays 43 = .ok (.iastore, 1) := by decide +kernel
theorem dX10_lays_44 : decode cX10_lays 44 = .ok (.iinc 3 1, 3) := by decide +kernel
theorem dX10_lays_47 : decode cX10_lays 47 = .ok (.goto (-27), 3) := by decide +kernel
theorem dX10_lays_50 : decode cX10_lays 50 = .ok (.return_, 1) := by decide +kernel
set_option maxRecDepth 20000 in
theorem ggX10_put_X10_noPlace : GoodIn wsX10_put wsX10_noPlace := goodIn_r _ [5, 6, 7, 4, 8] (by decide +kernel) (by decide +kernel)
set_option maxRecDepth 20000 in
theorem gX10_put_X10_noPlace : GoodIn wsX10_put (va_wsS RX10 70 yX10_noPlace wsX10_noPlace) := goodIn_app (goodIn_of _ (by decide +kernel)) ggX10_put_X10_noPlace
set_option maxRecDepth 20000 in
theorem ggX10_put_X10_isClaim : GoodIn wsX10_put wsX10_isClaim := goodIn_r _ [12, 13, 14, 1, 15, 16, 17, 18, 19, 4, 20, 21, 22, 23, 24, 25, 26, 27, 28, 29, 30, 31, 32, 33, 34, 35, 36, 65, 66, 67, 68, 69, 70, 71, 72, 73, 74, 75, 76, 77, 78, 79, 80, 81, 82, 83, 84, 85, 86, 87, 88, 89] (by decide +kernel) (by decide +kernel)
set_option maxRecDepth 20000 in
theorem gX10_put_X10_isClaim : GoodIn wsX10_put (wsV RX10 150 RX10 yX10_isClaim wsX10_isClaim) := goodIn_app (goodIn_of _ (by decide +kernel)) ggX10_put_X10_isClaim
set_option maxRecDepth 20000 in
theorem ggX10_put_X10_isSame : GoodIn wsX10_put wsX10_isSame := goodIn_r _ [40, 41, 13, 26, 65, 66, 67, 68, 69, 70, 71, 72, 73, 74, 75, 76, 77, 78, 79, 80, 81, 82, 83, 84, 85, 86, 87, 88, 89] (by decide +kernel) (by decide +kernel)
set_option maxRecDepth 20000 in
theorem gX10_put_X10_isSame : GoodIn wsX10_put (wsV RX10 154 RX10 yX10_isSame wsX10_isSame) := goodIn_app (goodIn_of _ (by decide +kernel)) ggX10_put_X10_isSame
set_option maxRecDepth 20000 in
theorem ggX10_put_X10_record : GoodIn wsX10_put wsX10_record := goodIn_r _ [45, 46, 47, 41, 65, 66, 67, 68, 69, 70, 71, 72, 73, 74, 75, 76, 77, 78, 79, 80, 81, 82, 83, 84, 85, 86, 87, 88, 89] (by decide +kernel) (by decide +kernel)
set_option maxRecDepth 20000 in
theorem gX10_put_X10_record : GoodIn wsX10_put (wsV RX10 89 RX10 yX10_record wsX10_record) := goodIn_app (goodIn_of _ (by decide +kernel)) ggX10_put_X10_record
set_option maxRecDepth 20000 in
theorem ggX10_put_X10_lays : GoodIn wsX10_put wsX10_lays := goodIn_r _ [51, 41, 13, 26, 65, 66, 67, 68, 69, 70, 71, 72, 73, 74, 75, 76, 77, 78, 79, 80, 81, 82, 83, 84, 85, 86, 87, 88, 89] (by decide +kernel) (by decide +kernel)
set_option maxRecDepth 20000 in
theorem gX10_put_X10_lays : GoodIn wsX10_put (wsV RX10 157 RX10 yX10_lays wsX10_lays) := goodIn_app (goodIn_of _ (by decide +kernel)) ggX10_put_X10_lays
set_option maxRecDepth 20000 in
theorem ggX10_put_X10_holding : GoodIn wsX10_put wsX10_holding := goodIn_r _ [55, 41, 56, 57, 58, 59, 4, 60, 61, 62, 63, 64, 65, 66, 67, 68, 69, 70, 71, 72, 73, 74, 75, 76, 77, 78, 79, 80, 81, 82, 83, 84, 85, 86, 87, 88, 89] (by decide +kernel) (by decide +kernel)
set_option maxRecDepth 20000 in
theorem gX10_put_X10_holding : GoodIn wsX10_put (wsV RX10 160 RX10 yX10_holding wsX10_holding) := goodIn_app (goodIn_of _ (by decide +kernel)) ggX10_put_X10_holding
theorem dX10_put_0 : decode cX10_put 0 = .ok (.iload_n 1, 1) := by decide +kernel
theorem dX10_put_1 : decode cX10_put 1 = .ok (.invokestatic 70, 3) := by decide +kernel
theorem dX10_put_4 : decode cX10_put 4 = .ok (.ifCond .eq 5, 3) := by decide +kernel
theorem dX10_put_7 : decode cX10_put 7 = .ok (.iconst (-1), 1) := by decide +kernel
theorem dX10_put_8 : decode cX10_put 8 = .ok (.ireturn, 1) := by decide +kernel
theorem dX10_put_9 : decode cX10_put 9 = .ok (.aload_n 0, 1) := by decide +kernel
theorem dX10_put_10 : decode cX10_put 10 = .ok (.invokevirtual 150, 3) := by decide +kernel
theorem dX10_put_13 : decode cX10_put 13 = .ok (.ifCond .ne 11, 3) := by decide +kernel
theorem dX10_put_16 : decode cX10_put 16 = .ok (.bipush (-100), 2) := by decide +kernel
theorem dX10_put_18 : decode cX10_put 18 = .ok (.aload_n 0, 1) := by decide +kernel
theorem dX10_put_19 : decode cX10_put 19 = .ok (.getfield 131, 3) := by decide +kernel
theorem dX10_put_22 : decode cX10_put 22 = .ok (.isub, 1) := by decide +kernel
theorem dX10_put_23 : decode cX10_put 23 = .ok (.ireturn, 1) := by decide +kernel
theorem dX10_put_24 : decode cX10_put 24 = .ok (.aload_n 0, 1) := by decide +kernel
theorem dX10_put_25 : decode cX10_put 25 = .ok (.iload_n 1, 1) := by decide +kernel
theorem dX10_put_26 : decode cX10_put 26 = .ok (.invokevirtual 154, 3) := by decide +kernel
theorem dX10_put_29 : decode cX10_put 29 = .ok (.ifCond .eq 6, 3) := by decide +kernel
theorem dX10_put_32 : decode cX10_put 32 = .ok (.bipush (-5), 2) := by decide +kernel
theorem dX10_put_34 : decode cX10_put 34 = .ok (.ireturn, 1) := by decide +kernel
theorem dX10_put_35 : decode cX10_put 35 = .ok (.aload_n 0, 1) := by decide +kernel
theorem dX10_put_36 : decode cX10_put 36 = .ok (.invokevirtual 89, 3) := by decide +kernel
theorem dX10_put_39 : decode cX10_put 39 = .ok (.aload_n 0, 1) := by decide +kernel
theorem dX10_put_40 : decode cX10_put 40 = .ok (.iload_n 1, 1) := by decide +kernel
theorem dX10_put_41 : decode cX10_put 41 = .ok (.invokevirtual 157, 3) := by decide +kernel
theorem dX10_put_44 : decode cX10_put 44 = .ok (.aload_n 0, 1) := by decide +kernel
theorem dX10_put_45 : decode cX10_put 45 = .ok (.iload_n 1, 1) := by decide +kernel
theorem dX10_put_46 : decode cX10_put 46 = .ok (.invokevirtual 160, 3) := by decide +kernel
theorem dX10_put_49 : decode cX10_put 49 = .ok (.ireturn, 1) := by decide +kernel
set_option maxRecDepth 20000 in
theorem ggX10_places_X10_noClaim : GoodIn wsX10_places wsX10_noClaim := goodIn_r _ [5, 6, 7, 8, 4, 9, 10, 11, 12, 13, 14, 15, 16, 17, 18, 19, 20, 21, 22, 23, 24, 25, 26, 27, 28, 29, 30, 31, 32, 33, 34, 35, 36, 37] (by decide +kernel) (by decide +kernel)
set_option maxRecDepth 20000 in
theorem gX10_places_X10_noClaim : GoodIn wsX10_places (wsV RX10 163 RX10 yX10_noClaim wsX10_noClaim) := goodIn_app (goodIn_of _ (by decide +kernel)) ggX10_places_X10_noClaim
theorem dX10_places_0 : decode cX10_places 0 = .ok (.iconst 0, 1) := by decide +kernel
theorem dX10_places_1 : decode cX10_places 1 = .ok (.istore_n 1, 1) := by decide +kernel
theorem dX10_places_2 : decode cX10_places 2 = .ok (.iconst 0, 1) := by decide +kernel
theorem dX10_places_3 : decode cX10_places 3 = .ok (.istore_n 2, 1) := by decide +kernel
theorem dX10_places_4 : decode cX10_places 4 = .ok (.iload_n 2, 1) := by decide +kernel
theorem dX10_places_5 : decode cX10_places 5 = .ok (.iconst 5, 1) := by decide +kernel
theorem dX10_places_6 : decode cX10_places 6 = .ok (.if_icmp .ge 27, 3) := by decide +kernel
theorem dX10_places_9 : decode cX10_places 9 = .ok (.iload_n 1, 1) := by decide +kernel
theorem dX10_places_10 : decode cX10_places 10 = .ok (.aload_n 0, 1) := by decide +kernel
theorem dX10_places_11 : decode cX10_places 11 = .ok (.iload_n 2, 1) := by decide +kernel
theorem dX10_places_12 : decode cX10_places 12 = .ok (.invokevirtual 163, 3) := by decide +kernel
theorem dX10_places_15 : decode cX10_places 15 = .ok (.ifCond .eq 7, 3) := by decide +kernel
theorem dX10_places_18 : decode cX10_places 18 = .ok (.iconst 0, 1) := by decide +kernel
theorem dX10_places_19 : decode cX10_places 19 = .ok (.goto 6, 3) := by decide +kernel
theorem dX10_places_22 : decode cX10_places 22 = .ok (.iconst 1, 1) := by decide +kernel
theorem dX10_places_23 : decode cX10_places 23 = .ok (.iload_n 2, 1) := by decide +kernel
theorem dX10_places_24 : decode cX10_places 24 = .ok (.ishl, 1) := by decide +kernel
theorem dX10_places_25 : decode cX10_places 25 = .ok (.ior, 1) := by decide +kernel
theorem dX10_places_26 : decode cX10_places 26 = .ok (.istore_n 1, 1) := by decide +kernel
theorem dX10_places_27 : decode cX10_places 27 = .ok (.iinc 2 1, 3) := by decide +kernel
theorem dX10_places_30 : decode cX10_places 30 = .ok (.goto (-26), 3) := by decide +kernel
theorem dX10_places_33 : decode cX10_places 33 = .ok (.iload_n 1, 1) := by decide +kernel
theorem dX10_places_34 : decode cX10_places 34 = .ok (.ireturn, 1) := by decide +kernel
set_option maxRecDepth 20000 in
theorem ggX10_drop_X10_noClaim : GoodIn wsX10_drop wsX10_noClaim := goodIn_r _ [6, 1, 7, 8, 5, 9, 10, 11, 12, 26, 27, 28, 29, 30, 31, 32, 33, 34, 35, 36, 37, 38, 39, 40, 41, 42, 43, 44, 45, 46, 47, 48, 49, 50] (by decide +kernel) (by decide +kernel)
set_option maxRecDepth 20000 in
theorem gX10_drop_X10_noClaim : GoodIn wsX10_drop (wsV RX10 163 RX10 yX10_noClaim wsX10_noClaim) := goodIn_app (goodIn_of _ (by decide +kernel)) ggX10_drop_X10_noClaim
set_option maxRecDepth 20000 in
theorem ggX10_drop_X10_record : GoodIn wsX10_drop wsX10_record := goodIn_r _ [16, 17, 18, 1, 26, 27, 28, 29, 30, 31, 32, 33, 34, 35, 36, 37, 38, 39, 40, 41, 42, 43, 44, 45, 46, 47, 48, 49, 50] (by decide +kernel) (by decide +kernel)
set_option maxRecDepth 20000 in
theorem gX10_drop_X10_record : GoodIn wsX10_drop (wsV RX10 89 RX10 yX10_record wsX10_record) := goodIn_app (goodIn_of _ (by decide +kernel)) ggX10_drop_X10_record
set_option maxRecDepth 20000 in
theorem ggX10_drop_X10_places : GoodIn wsX10_drop wsX10_places := goodIn_r _ [22, 2, 3, 4, 5, 6, 1, 7, 8, 9, 10, 11, 12, 26, 27, 28, 29, 30, 31, 32, 33, 34, 35, 36, 37, 38, 39, 40, 41, 42, 43, 44, 45, 46, 47, 48, 49, 50] (by decide +kernel) (by decide +kernel)
set_option maxRecDepth 20000 in
theorem gX10_drop_X10_places : GoodIn wsX10_drop (wsV RX10 166 RX10 yX10_places wsX10_places) := goodIn_app (goodIn_of _ (by decide +kernel)) ggX10_drop_X10_places
set_option maxRecDepth 20000 in
theorem ggX10_drop_X10_bits : GoodIn wsX10_drop wsX10_bits := goodIn_r _ [25] (by decide +kernel) (by decide +kernel)
set_option maxRecDepth 20000 in
theorem gX10_drop_X10_bits : GoodIn wsX10_drop (va_wsS RX10 82 yX10_bits wsX10_bits) := goodIn_app (goodIn_of _ (by decide +kernel)) ggX10_drop_X10_bits
theorem dX10_drop_0 : decode cX10_drop 0 = .ok (.aload_n 0, 1) := by decide +kernel
theorem dX10_drop_1 : decode cX10_drop 1 = .ok (.iload_n 1, 1) := by decide +kernel
theorem dX10_drop_2 : decode cX10_drop 2 = .ok (.invokevirtual 163, 3) := by decide +kernel
theorem dX10_drop_5 : decode cX10_drop 5 = .ok (.ifCond .eq 5, 3) := by decide +kernel
theorem dX10_drop_8 : decode cX10_drop 8 = .ok (.iconst (-1), 1) := by decide +kernel
theorem dX10_drop_9 : decode cX10_drop 9 = .ok (.ireturn, 1) := by decide +kernel
theorem dX10_drop_10 : decode cX10_drop 10 = .ok (.aload_n 0, 1) := by decide +kernel
theorem dX10_drop_11 : decode cX10_drop 11 = .ok (.invokevirtual 89, 3) := by decide +kernel
theorem dX10_drop_14 : decode cX10_drop 14 = .ok (.aload_n 0, 1) := by decide +kernel
theorem dX10_drop_15 : decode cX10_drop 15 = .ok (.getfield 7, 3) := by decide +kernel
theorem dX10_drop_18 : decode cX10_drop 18 = .ok (.bipush 17, 2) := by decide +kernel
theorem dX10_drop_20 : decode cX10_drop 20 = .ok (.bipush 31, 2) := by decide +kernel
theorem dX10_drop_22 : decode cX10_drop 22 = .ok (.iload_n 1, 1) := by decide +kernel
theorem dX10_drop_23 : decode cX10_drop 23 = .ok (.imul, 1) := by decide +kernel
theorem dX10_drop_24 : decode cX10_drop 24 = .ok (.iadd, 1) := by decide +kernel
theorem dX10_drop_25 : decode cX10_drop 25 = .ok (.iconst 0, 1) := by decide +kernel
theorem dX10_drop_26 : decode cX10_drop 26 = .ok (.iastore, 1) := by decide +kernel
theorem dX10_drop_27 : decode cX10_drop 27 = .ok (.aload_n 0, 1) := by decide +kernel
theorem dX10_drop_28 : decode cX10_drop 28 = .ok (.invokevirtual 166, 3) := by decide +kernel
theorem dX10_drop_31 : decode cX10_drop 31 = .ok (.invokestatic 82, 3) := by decide +kernel
theorem dX10_drop_34 : decode cX10_drop 34 = .ok (.ireturn, 1) := by decide +kernel
set_option maxRecDepth 20000 in
theorem ggX10_takes_X10_puts : GoodIn wsX10_takes wsX10_puts := goodIn_r _ [6, 7, 8, 9, 10, 11, 12, 13, 14, 15, 16, 17, 18, 19, 20, 21, 22, 23, 24, 25, 26, 27, 28, 29, 30, 31, 32, 33] (by decide +kernel) (by decide +kernel)
set_option maxRecDepth 20000 in
theorem gX10_takes_X10_puts : GoodIn wsX10_takes (wsV RX10 128 RX10 yX10_puts wsX10_puts) := goodIn_app (goodIn_of _ (by decide +kernel)) ggX10_takes_X10_puts
theorem dX10_takes_0 : decode cX10_takes 0 = .ok (.bipush 17, 2) := by decide +kernel
theorem dX10_takes_2 : decode cX10_takes 2 = .ok (.bipush 31, 2) := by decide +kernel
theorem dX10_takes_4 : decode cX10_takes 4 = .ok (.iload_n 1, 1) := by decide +kernel
theorem dX10_takes_5 : decode cX10_takes 5 = .ok (.imul, 1) := by decide +kernel
theorem dX10_takes_6 : decode cX10_takes 6 = .ok (.iadd, 1) := by decide +kernel
theorem dX10_takes_7 : decode cX10_takes 7 = .ok (.istore_n 2, 1) := by decide +kernel
theorem dX10_takes_8 : decode cX10_takes 8 = .ok (.iconst 1, 1) := by decide +kernel
theorem dX10_takes_9 : decode cX10_takes 9 = .ok (.istore_n 3, 1) := by decide +kernel
theorem dX10_takes_10 : decode cX10_takes 10 = .ok (.iload_n 3, 1) := by decide +kernel
theorem dX10_takes_11 : decode cX10_takes 11 = .ok (.aload_n 0, 1) := by decide +kernel
theorem dX10_takes_12 : decode cX10_takes 12 = .ok (.getfield 7, 3) := by decide +kernel
theorem dX10_takes_15 : decode cX10_takes 15 = .ok (.iload_n 2, 1) := by decide +kernel
theorem dX10_takes_16 : decode cX10_takes 16 = .ok (.iaload, 1) := by decide +kernel
theorem dX10_takes_17 : decode cX10_takes 17 = .ok (.if_icmp .gt 21, 3) := by decide +kernel
theorem dX10_takes_20 : decode cX10_takes 20 = .ok (.aload_n 0, 1) := by decide +kernel
theorem dX10_takes_21 : decode cX10_takes 21 = .ok (.aload_n 0, 1) := by decide +kernel
theorem dX10_takes_22 : decode cX10_takes 22 = .ok (.getfield 7, 3) := by decide +kernel
theorem dX10_takes_25 : decode cX10_takes 25 = .ok (.iload_n 2, 1) := by decide +kernel
theorem dX10_takes_26 : decode cX10_takes 26 = .ok (.iload_n 3, 1) := by decide +kernel
theorem dX10_takes_27 : decode cX10_takes 27 = .ok (.iadd, 1) := by decide +kernel
theorem dX10_takes_28 : decode cX10_takes 28 = .ok (.iaload, 1) := by decide +kernel
theorem dX10_takes_29 : decode cX10_takes 29 = .ok (.invokevirtual 128, 3) := by decide +kernel
theorem dX10_takes_32 : decode cX10_takes 32 = .ok (.iinc 3 1, 3) := by decide +kernel
theorem dX10_takes_35 : decode cX10_takes 35 = .ok (.goto (-25), 3) := by decide +kernel
theorem dX10_takes_38 : decode cX10_takes 38 = .ok (.return_, 1) := by decide +kernel
set_option maxRecDepth 20000 in
theorem ggX10_join_X10_noPlace : GoodIn wsX10_join wsX10_noPlace := goodIn_r _ [6, 7, 8, 5, 9] (by decide +kernel) (by decide +kernel)
set_option maxRecDepth 20000 in
theorem gX10_join_X10_noPlace : GoodIn wsX10_join (va_wsS RX10 70 yX10_noPlace wsX10_noPlace) := goodIn_app (goodIn_of _ (by decide +kernel)) ggX10_join_X10_noPlace
set_option maxRecDepth 20000 in
theorem ggX10_join_X10_noClaim : GoodIn wsX10_join wsX10_noClaim := goodIn_r _ [13, 1, 3, 4, 5, 6, 7, 8, 9, 46, 47, 48, 49, 50, 51, 52, 53, 54, 55, 56, 57, 58, 59, 60, 61, 62, 63, 64, 65, 66, 67, 68, 69, 70] (by decide +kernel) (by decide +kernel)
set_option maxRecDepth 20000 in
theorem gX10_join_X10_noClaim : GoodIn wsX10_join (wsV RX10 163 RX10 yX10_noClaim wsX10_noClaim) := goodIn_app (goodIn_of _ (by decide +kernel)) ggX10_join_X10_noClaim
set_option maxRecDepth 20000 in
theorem ggX10_join_X10_in : GoodIn wsX10_join wsX10_in := goodIn_r _ [9] (by decide +kernel) (by decide +kernel)
set_option maxRecDepth 20000 in
theorem gX10_join_X10_in : GoodIn wsX10_join (va_wsS RX10 66 yX10_in wsX10_in) := goodIn_app (goodIn_of _ (by decide +kernel)) ggX10_join_X10_in
set_option maxRecDepth 20000 in
theorem ggX10_join_X10_record : GoodIn wsX10_join wsX10_record := goodIn_r _ [17, 18, 19, 1, 46, 47, 48, 49, 50, 51, 52, 53, 54, 55, 56, 57, 58, 59, 60, 61, 62, 63, 64, 65, 66, 67, 68, 69, 70] (by decide +kernel) (by decide +kernel)
set_option maxRecDepth 20000 in
theorem gX10_join_X10_record : GoodIn wsX10_join (wsV RX10 89 RX10 yX10_record wsX10_record) := goodIn_app (goodIn_of _ (by decide +kernel)) ggX10_join_X10_record
set_option maxRecDepth 20000 in
theorem ggX10_join_X10_takes : GoodIn wsX10_join wsX10_takes := goodIn_r _ [23, 1, 24, 25, 26, 5, 27, 28, 2, 46, 47, 48, 49, 50, 51, 52, 53, 54, 55, 56, 57, 58, 59, 60, 61, 62, 63, 64, 65, 66, 67, 68, 69, 70] (by decide +kernel) (by decide +kernel)
set_option maxRecDepth 20000 in
theorem gX10_join_X10_takes : GoodIn wsX10_join (wsV RX10 169 RX10 yX10_takes wsX10_takes) := goodIn_app (goodIn_of _ (by decide +kernel)) ggX10_join_X10_takes
set_option maxRecDepth 20000 in
theorem ggX10_join_X10_puts : GoodIn wsX10_join wsX10_puts := goodIn_r _ [27, 28, 2, 46, 47, 48, 49, 50, 51, 52, 53, 54, 55, 56, 57, 58, 59, 60, 61, 62, 63, 64, 65, 66, 67, 68, 69, 70] (by decide +kernel) (by decide +kernel)
set_option maxRecDepth 20000 in
theorem gX10_join_X10_puts : GoodIn wsX10_join (wsV RX10 128 RX10 yX10_puts wsX10_puts) := goodIn_app (goodIn_of _ (by decide +kernel)) ggX10_join_X10_puts
set_option maxRecDepth 20000 in
theorem ggX10_join_X10_lays : GoodIn wsX10_join wsX10_lays := goodIn_r _ [32, 1, 2, 28, 46, 47, 48, 49, 50, 51, 52, 53, 54, 55, 56, 57, 58, 59, 60, 61, 62, 63, 64, 65, 66, 67, 68, 69, 70] (by decide +kernel) (by decide +kernel)
set_option maxRecDepth 20000 in
theorem gX10_join_X10_lays : GoodIn wsX10_join (wsV RX10 157 RX10 yX10_lays wsX10_lays) := goodIn_app (goodIn_of _ (by decide +kernel)) ggX10_join_X10_lays
set_option maxRecDepth 20000 in
theorem ggX10_join_X10_holding : GoodIn wsX10_join wsX10_holding := goodIn_r _ [36, 1, 37, 38, 39, 40, 5, 41, 42, 43, 44, 45, 46, 47, 48, 49, 50, 51, 52, 53, 54, 55, 56, 57, 58, 59, 60, 61, 62, 63, 64, 65, 66, 67, 68, 69, 70] (by decide +kernel) (by decide +kernel)
set_option maxRecDepth 20000 in
theorem gX10_join_X10_holding : GoodIn wsX10_join (wsV RX10 160 RX10 yX10_holding wsX10_holding) := goodIn_app (goodIn_of _ (by decide +kernel)) ggX10_join_X10_holding
theorem dX10_join_0 : decode cX10_join 0 = .ok (.iload_n 1, 1) := by decide +kernel
theorem dX10_join_1 : decode cX10_join 1 = .ok (.invokestatic 70, 3) := by decide +kernel
theorem dX10_join_4 : decode cX10_join 4 = .ok (.ifCond .ne 20, 3) := by decide +kernel
theorem dX10_join_7 : decode cX10_join 7 = .ok (.aload_n 0, 1) := by decide +kernel
theorem dX10_join_8 : decode cX10_join 8 = .ok (.iload_n 2, 1) := by decide +kernel
theorem dX10_join_9 : decode cX10_join 9 = .ok (.invokevirtual 163, 3) := by decide +kernel
theorem dX10_join_12 : decode cX10_join 12 = .ok (.ifCond .ne 12, 3) := by decide +kernel
theorem dX10_join_15 : decode cX10_join 15 = .ok (.aload_n 0, 1) := by decide +kernel
theorem dX10_join_16 : decode cX10_join 16 = .ok (.iload 4, 2) := by decide +kernel
theorem dX10_join_18 : decode cX10_join 18 = .ok (.invokevirtual 163, 3) := by decide +kernel
theorem dX10_join_21 : decode cX10_join 21 = .ok (.ifCond .eq 5, 3) := by decide +kernel
theorem dX10_join_24 : decode cX10_join 24 = .ok (.iconst (-1), 1) := by decide +kernel
theorem dX10_join_25 : decode cX10_join 25 = .ok (.ireturn, 1) := by decide +kernel
theorem dX10_join_26 : decode cX10_join 26 = .ok (.iload_n 3, 1) := by decide +kernel
theorem dX10_join_27 : decode cX10_join 27 = .ok (.iconst 0, 1) := by decide +kernel
theorem dX10_join_28 : decode cX10_join 28 = .ok (.iconst 2, 1) := by decide +kernel
theorem dX10_join_29 : decode cX10_join 29 = .ok (.invokestatic 66, 3) := by decide +kernel
theorem dX10_join_32 : decode cX10_join 32 = .ok (.ifCond .ne 6, 3) := by decide +kernel
theorem dX10_join_35 : decode cX10_join 35 = .ok (.bipush (-2), 2) := by decide +kernel
theorem dX10_join_37 : decode cX10_join 37 = .ok (.ireturn, 1) := by decide +kernel
theorem dX10_join_38 : decode cX10_join 38 = .ok (.aload_n 0, 1) := by decide +kernel
theorem dX10_join_39 : decode cX10_join 39 = .ok (.getfield 7, 3) := by decide +kernel
theorem dX10_join_42 : decode cX10_join 42 = .ok (.bipush 17, 2) := by decide +kernel
theorem dX10_join_44 : decode cX10_join 44 = .ok (.bipush 31, 2) := by decide +kernel
theorem dX10_join_46 : decode cX10_join 46 = .ok (.iload_n 2, 1) := by decide +kernel
theorem dX10_join_47 : decode cX10_join 47 = .ok (.imul, 1) := by decide +kernel
theorem dX10_join_48 : decode cX10_join 48 = .ok (.iadd, 1) := by decide +kernel
theorem dX10_join_49 : decode cX10_join 49 = .ok (.iaload, 1) := by decide +kernel
theorem dX10_join_50 : decode cX10_join 50 = .ok (.aload_n 0, 1) := by decide +kernel
theorem dX10_join_51 : decode cX10_join 51 = .ok (.getfield 7, 3) := by decide +kernel
theorem dX10_join_54 : decode cX10_join 54 = .ok (.bipush 17, 2) := by decide +kernel
theorem dX10_join_56 : decode cX10_join 56 = .ok (.bipush 31, 2) := by decide +kernel
theorem dX10_join_58 : decode cX10_join 58 = .ok (.iload 4, 2) := by decide +kernel
theorem dX10_join_60 : decode cX10_join 60 = .ok (.imul, 1) := by decide +kernel
theorem dX10_join_61 : decode cX10_join 61 = .ok (.iadd, 1) := by decide +kernel
theorem dX10_join_62 : decode cX10_join 62 = .ok (.iaload, 1) := by decide +kernel
theorem dX10_join_63 : decode cX10_join 63 = .ok (.iadd, 1) := by decide +kernel
theorem dX10_join_64 : decode cX10_join 64 = .ok (.iconst 1, 1) := by decide +kernel
theorem dX10_join_65 : decode cX10_join 65 = .ok (.iadd, 1) := by decide +kernel
theorem dX10_join_66 : decode cX10_join 66 = .ok (.bipush 24, 2) := by decide +kernel
theorem dX10_join_68 : decode cX10_join 68 = .ok (.if_icmp .le 6, 3) := by decide +kernel
theorem dX10_join_71 : decode cX10_join 71 = .ok (.bipush (-4), 2) := by decide +kernel
theorem dX10_join_73 : decode cX10_join 73 = .ok (.ireturn, 1) := by decide +kernel
theorem dX10_join_74 : decode cX10_join 74 = .ok (.aload_n 0, 1) := by decide +kernel
theorem dX10_join_75 : decode cX10_join 75 = .ok (.invokevirtual 89, 3) := by decide +kernel
theorem dX10_join_78 : decode cX10_join 78 = .ok (.aload_n 0, 1) := by decide +kernel
theorem dX10_join_79 : decode cX10_join 79 = .ok (.iconst 0, 1) := by decide +kernel
theorem dX10_join_80 : decode cX10_join 80 = .ok (.putfield 122, 3) := by decide +kernel
theorem dX10_join_83 : decode cX10_join 83 = .ok (.aload_n 0, 1) := by decide +kernel
theorem dX10_join_84 : decode cX10_join 84 = .ok (.iload_n 2, 1) := by decide +kernel
theorem dX10_join_85 : decode cX10_join 85 = .ok (.invokevirtual 169, 3) := by decide +kernel
theorem dX10_join_88 : decode cX10_join 88 = .ok (.aload_n 0, 1) := by decide +kernel
theorem dX10_join_89 : decode cX10_join 89 = .ok (.iload 4, 2) := by decide +kernel
theorem dX10_join_91 : decode cX10_join 91 = .ok (.invokevirtual 169, 3) := by decide +kernel
theorem dX10_join_94 : decode cX10_join 94 = .ok (.aload_n 0, 1) := by decide +kernel
theorem dX10_join_95 : decode cX10_join 95 = .ok (.bipush 7, 2) := by decide +kernel
theorem dX10_join_97 : decode cX10_join 97 = .ok (.iload_n 3, 1) := by decide +kernel
theorem dX10_join_98 : decode cX10_join 98 = .ok (.iadd, 1) := by decide +kernel
theorem dX10_join_99 : decode cX10_join 99 = .ok (.invokevirtual 128, 3) := by decide +kernel
theorem dX10_join_102 : decode cX10_join 102 = .ok (.aload_n 0, 1) := by decide +kernel
theorem dX10_join_103 : decode cX10_join 103 = .ok (.iload_n 1, 1) := by decide +kernel
theorem dX10_join_104 : decode cX10_join 104 = .ok (.invokevirtual 157, 3) := by decide +kernel
theorem dX10_join_107 : decode cX10_join 107 = .ok (.aload_n 0, 1) := by decide +kernel
theorem dX10_join_108 : decode cX10_join 108 = .ok (.iload_n 1, 1) := by decide +kernel
theorem dX10_join_109 : decode cX10_join 109 = .ok (.invokevirtual 160, 3) := by decide +kernel
theorem dX10_join_112 : decode cX10_join 112 = .ok (.ireturn, 1) := by decide +kernel
set_option maxRecDepth 20000 in
theorem ggX10_clears_X10_part : GoodIn wsX10_clears wsX10_part := goodIn_r _ [6, 1, 7, 8, 9, 10, 11, 12, 5, 13, 14, 15, 16, 17, 18, 19, 20, 21, 22, 23, 24, 25, 26, 27, 28, 29, 30, 31, 32, 33, 34, 35, 36, 37, 38, 39, 40, 41, 42, 43, 44, 45, 46, 47, 48, 49, 50, 51, 52, 53, 54, 55, 56, 57, 58, 59, 60, 61] (by decide +kernel) (by decide +kernel)
set_option maxRecDepth 20000 in
theorem gX10_clears_X10_part : GoodIn wsX10_clears (wsV RX10 175 RX10 yX10_part wsX10_part) := goodIn_app (goodIn_of _ (by decide +kernel)) ggX10_clears_X10_part
theorem dX10_clears_0 : decode cX10_clears 0 = .ok (.aload_n 0, 1) := by decide +kernel
theorem dX10_clears_1 : decode cX10_clears 1 = .ok (.iconst 0, 1) := by decide +kernel
theorem dX10_clears_2 : decode cX10_clears 2 = .ok (.putfield 172, 3) := by decide +kernel
theorem dX10_clears_5 : decode cX10_clears 5 = .ok (.aload_n 0, 1) := by decide +kernel
theorem dX10_clears_6 : decode cX10_clears 6 = .ok (.iconst 4, 1) := by decide +kernel
theorem dX10_clears_7 : decode cX10_clears 7 = .ok (.iconst 0, 1) := by decide +kernel
theorem dX10_clears_8 : decode cX10_clears 8 = .ok (.iconst 0, 1) := by decide +kernel
theorem dX10_clears_9 : decode cX10_clears 9 = .ok (.invokevirtual 175, 3) := by decide +kernel
theorem dX10_clears_12 : decode cX10_clears 12 = .ok (.pop, 1) := by decide +kernel
theorem dX10_clears_13 : decode cX10_clears 13 = .ok (.aload_n 0, 1) := by decide +kernel
theorem dX10_clears_14 : decode cX10_clears 14 = .ok (.iconst 5, 1) := by decide +kernel
theorem dX10_clears_15 : decode cX10_clears 15 = .ok (.iconst 0, 1) := by decide +kernel
theorem dX10_clears_16 : decode cX10_clears 16 = .ok (.iconst 0, 1) := by decide +kernel
theorem dX10_clears_17 : decode cX10_clears 17 = .ok (.invokevirtual 175, 3) := by decide +kernel
theorem dX10_clears_20 : decode cX10_clears 20 = .ok (.pop, 1) := by decide +kernel
theorem dX10_clears_21 : decode cX10_clears 21 = .ok (.return_, 1) := by decide +kernel
set_option maxRecDepth 20000 in
theorem ggX10_part_X10_looksAt : GoodIn wsX10_part wsX10_looksAt := goodIn_r _ [9, 10, 2, 11, 12, 8, 13, 14, 15, 16, 17, 18, 19, 20, 21, 22, 23, 24, 25, 26, 27, 28, 29, 30, 31, 32, 3, 4, 33, 34, 35, 36, 37, 38, 39, 40, 41, 42, 43, 44, 45, 46, 47, 48, 49, 50, 51, 52, 53, 54, 55, 56, 57] (by decide +kernel) (by decide +kernel)
set_option maxRecDepth 20000 in
theorem gX10_part_X10_looksAt : GoodIn wsX10_part (wsV RX10 179 RX10 yX10_looksAt wsX10_looksAt) := goodIn_app (goodIn_of _ (by decide +kernel)) ggX10_part_X10_looksAt
theorem dX10_part_0 : decode cX10_part 0 = .ok (.iconst 0, 1) := by decide +kernel
theorem dX10_part_1 : decode cX10_part 1 = .ok (.istore 4, 2) := by decide +kernel
theorem dX10_part_3 : decode cX10_part 3 = .ok (.iload 4, 2) := by decide +kernel
theorem dX10_part_5 : decode cX10_part 5 = .ok (.aload_n 0, 1) := by decide +kernel
theorem dX10_part_6 : decode cX10_part 6 = .ok (.getfield 172, 3) := by decide +kernel
theorem dX10_part_9 : decode cX10_part 9 = .ok (.if_icmp .ge 45, 3) := by decide +kernel
theorem dX10_part_12 : decode cX10_part 12 = .ok (.aload_n 0, 1) := by decide +kernel
theorem dX10_part_13 : decode cX10_part 13 = .ok (.getfield 38, 3) := by decide +kernel
theorem dX10_part_16 : decode cX10_part 16 = .ok (.iload 4, 2) := by decide +kernel
theorem dX10_part_18 : decode cX10_part 18 = .ok (.iaload, 1) := by decide +kernel
theorem dX10_part_19 : decode cX10_part 19 = .ok (.iload_n 1, 1) := by decide +kernel
theorem dX10_part_20 : decode cX10_part 20 = .ok (.if_icmp .ne 28, 3) := by decide +kernel
theorem dX10_part_23 : decode cX10_part 23 = .ok (.aload_n 0, 1) := by decide +kernel
theorem dX10_part_24 : decode cX10_part 24 = .ok (.getfield 41, 3) := by decide +kernel
theorem dX10_part_27 : decode cX10_part 27 = .ok (.iload 4, 2) := by decide +kernel
theorem dX10_part_29 : decode cX10_part 29 = .ok (.iaload, 1) := by decide +kernel
theorem dX10_part_30 : decode cX10_part 30 = .ok (.iload_n 2, 1) := by decide +kernel
theorem dX10_part_31 : decode cX10_part 31 = .ok (.if_icmp .ne 17, 3) := by decide +kernel
theorem dX10_part_34 : decode cX10_part 34 = .ok (.aload_n 0, 1) := by decide +kernel
theorem dX10_part_35 : decode cX10_part 35 = .ok (.getfield 44, 3) := by decide +kernel
theorem dX10_part_38 : decode cX10_part 38 = .ok (.iload 4, 2) := by decide +kernel
theorem dX10_part_40 : decode cX10_part 40 = .ok (.iaload, 1) := by decide +kernel
theorem dX10_part_41 : decode cX10_part 41 = .ok (.iload_n 3, 1) := by decide +kernel
theorem dX10_part_42 : decode cX10_part 42 = .ok (.if_icmp .ne 6, 3) := by decide +kernel
theorem dX10_part_45 : decode cX10_part 45 = .ok (.iload 4, 2) := by decide +kernel
theorem dX10_part_47 : decode cX10_part 47 = .ok (.ireturn, 1) := by decide +kernel
theorem dX10_part_48 : decode cX10_part 48 = .ok (.iinc 4 1, 3) := by decide +kernel
theorem dX10_part_51 : decode cX10_part 51 = .ok (.goto (-48), 3) := by decide +kernel
theorem dX10_part_54 : decode cX10_part 54 = .ok (.aload_n 0, 1) := by decide +kernel
theorem dX10_part_55 : decode cX10_part 55 = .ok (.getfield 38, 3) := by decide +kernel
theorem dX10_part_58 : decode cX10_part 58 = .ok (.aload_n 0, 1) := by decide +kernel
theorem dX10_part_59 : decode cX10_part 59 = .ok (.getfield 172, 3) := by decide +kernel
theorem dX10_part_62 : decode cX10_part 62 = .ok (.iload_n 1, 1) := by decide +kernel
theorem dX10_part_63 : decode cX10_part 63 = .ok (.iastore, 1) := by decide +kernel
theorem dX10_part_64 : decode cX10_part 64 = .ok (.aload_n 0, 1) := by decide +kernel
theorem dX10_part_65 : decode cX10_part 65 = .ok (.getfield 41, 3) := by decide +kernel
theorem dX10_part_68 : decode cX10_part 68 = .ok (.aload_n 0, 1) := by decide +kernel
theorem dX10_part_69 : decode cX10_part 69 = .ok (.getfield 172, 3) := by decide +kernel
theorem dX10_part_72 : decode cX10_part 72 = .ok (.iload_n 2, 1) := by decide +kernel
theorem dX10_part_73 : decode cX10_part 73 = .ok (.iastore, 1) := by decide +kernel
theorem dX10_part_74 : decode cX10_part 74 = .ok (.aload_n 0, 1) := by decide +kernel
theorem dX10_part_75 : decode cX10_part 75 = .ok (.getfield 44, 3) := by decide +kernel
theorem dX10_part_78 : decode cX10_part 78 = .ok (.aload_n 0, 1) := by decide +kernel
theorem dX10_part_79 : decode cX10_part 79 = .ok (.getfield 172, 3) := by decide +kernel
theorem dX10_part_82 : decode cX10_part 82 = .ok (.iload_n 3, 1) := by decide +kernel
theorem dX10_part_83 : decode cX10_part 83 = .ok (.iastore, 1) := by decide +kernel
theorem dX10_part_84 : decode cX10_part 84 = .ok (.aload_n 0, 1) := by decide +kernel
theorem dX10_part_85 : decode cX10_part 85 = .ok (.aload_n 0, 1) := by decide +kernel
theorem dX10_part_86 : decode cX10_part 86 = .ok (.getfield 172, 3) := by decide +kernel
theorem dX10_part_89 : decode cX10_part 89 = .ok (.invokevirtual 179, 3) := by decide +kernel
theorem dX10_part_92 : decode cX10_part 92 = .ok (.aload_n 0, 1) := by decide +kernel
theorem dX10_part_93 : decode cX10_part 93 = .ok (.dup, 1) := by decide +kernel
theorem dX10_part_94 : decode cX10_part 94 = .ok (.getfield 172, 3) := by decide +kernel
theorem dX10_part_97 : decode cX10_part 97 = .ok (.iconst 1, 1) := by decide +kernel
theorem dX10_part_98 : decode cX10_part 98 = .ok (.iadd, 1) := by decide +kernel
theorem dX10_part_99 : decode cX10_part 99 = .ok (.putfield 172, 3) := by decide +kernel
theorem dX10_part_102 : decode cX10_part 102 = .ok (.aload_n 0, 1) := by decide +kernel
theorem dX10_part_103 : decode cX10_part 103 = .ok (.getfield 172, 3) := by decide +kernel
theorem dX10_part_106 : decode cX10_part 106 = .ok (.iconst 1, 1) := by decide +kernel
theorem dX10_part_107 : decode cX10_part 107 = .ok (.isub, 1) := by decide +kernel
theorem dX10_part_108 : decode cX10_part 108 = .ok (.ireturn, 1) := by decide +kernel
set_option maxRecDepth 20000 in
theorem ggX10_both_X10_part : GoodIn wsX10_both wsX10_part := goodIn_r _ [5, 6, 7, 8, 9, 10, 11, 12, 4, 13, 14, 15, 16, 17, 18, 19, 20, 21, 22, 23, 24, 25, 26, 27, 28, 29, 30, 31, 32, 33, 34, 35, 36, 37, 38, 39, 40, 41, 42, 43, 44, 45, 46, 47, 48, 49, 50, 51, 52, 53, 54, 55, 56, 57, 58, 59, 60, 61] (by decide +kernel) (by decide +kernel)
set_option maxRecDepth 20000 in
theorem gX10_both_X10_part : GoodIn wsX10_both (wsV RX10 175 RX10 yX10_part wsX10_part) := goodIn_app (goodIn_of _ (by decide +kernel)) ggX10_both_X10_part
theorem dX10_both_0 : decode cX10_both 0 = .ok (.iload_n 1, 1) := by decide +kernel
theorem dX10_both_1 : decode cX10_both 1 = .ok (.ifCond .eq 8, 3) := by decide +kernel
theorem dX10_both_4 : decode cX10_both 4 = .ok (.iload_n 1, 1) := by decide +kernel
theorem dX10_both_5 : decode cX10_both 5 = .ok (.iload_n 2, 1) := by decide +kernel
theorem dX10_both_6 : decode cX10_both 6 = .ok (.if_icmp .ne 7, 3) := by decide +kernel
theorem dX10_both_9 : decode cX10_both 9 = .ok (.iload_n 2, 1) := by decide +kernel
theorem dX10_both_10 : decode cX10_both 10 = .ok (.goto 33, 3) := by decide +kernel
theorem dX10_both_13 : decode cX10_both 13 = .ok (.iload_n 2, 1) := by decide +kernel
theorem dX10_both_14 : decode cX10_both 14 = .ok (.ifCond .ne 7, 3) := by decide +kernel
theorem dX10_both_17 : decode cX10_both 17 = .ok (.iload_n 1, 1) := by decide +kernel
theorem dX10_both_18 : decode cX10_both 18 = .ok (.goto 25, 3) := by decide +kernel
theorem dX10_both_21 : decode cX10_both 21 = .ok (.iload_n 1, 1) := by decide +kernel
theorem dX10_both_22 : decode cX10_both 22 = .ok (.iconst 1, 1) := by decide +kernel
theorem dX10_both_23 : decode cX10_both 23 = .ok (.if_icmp .eq 8, 3) := by decide +kernel
theorem dX10_both_26 : decode cX10_both 26 = .ok (.iload_n 2, 1) := by decide +kernel
theorem dX10_both_27 : decode cX10_both 27 = .ok (.iconst 1, 1) := by decide +kernel
theorem dX10_both_28 : decode cX10_both 28 = .ok (.if_icmp .ne 7, 3) := by decide +kernel
theorem dX10_both_31 : decode cX10_both 31 = .ok (.iconst 1, 1) := by decide +kernel
theorem dX10_both_32 : decode cX10_both 32 = .ok (.goto 11, 3) := by decide +kernel
theorem dX10_both_35 : decode cX10_both 35 = .ok (.aload_n 0, 1) := by decide +kernel
theorem dX10_both_36 : decode cX10_both 36 = .ok (.bipush 7, 2) := by decide +kernel
theorem dX10_both_38 : decode cX10_both 38 = .ok (.iload_n 1, 1) := by decide +kernel
theorem dX10_both_39 : decode cX10_both 39 = .ok (.iload_n 2, 1) := by decide +kernel
theorem dX10_both_40 : decode cX10_both 40 = .ok (.invokevirtual 175, 3) := by decide +kernel
theorem dX10_both_43 : decode cX10_both 43 = .ok (.ireturn, 1) := by decide +kernel
set_option maxRecDepth 20000 in
theorem ggX10_either_X10_part : GoodIn wsX10_either wsX10_part := goodIn_r _ [5, 6, 7, 8, 9, 10, 11, 12, 4, 13, 14, 15, 16, 17, 18, 19, 20, 21, 22, 23, 24, 25, 26, 27, 28, 29, 30, 31, 32, 33, 34, 35, 36, 37, 38, 39, 40, 41, 42, 43, 44, 45, 46, 47, 48, 49, 50, 51, 52, 53, 54, 55, 56, 57, 58, 59, 60, 61] (by decide +kernel) (by decide +kernel)
set_option maxRecDepth 20000 in
theorem gX10_either_X10_part : GoodIn wsX10_either (wsV RX10 175 RX10 yX10_part wsX10_part) := goodIn_app (goodIn_of _ (by decide +kernel)) ggX10_either_X10_part
theorem dX10_either_0 : decode cX10_either 0 = .ok (.iload_n 1, 1) := by decide +kernel
theorem dX10_either_1 : decode cX10_either 1 = .ok (.iconst 1, 1) := by decide +kernel
theorem dX10_either_2 : decode cX10_either 2 = .ok (.if_icmp .eq 8, 3) := by decide +kernel
theorem dX10_either_5 : decode cX10_either 5 = .ok (.iload_n 1, 1) := by decide +kernel
theorem dX10_either_6 : decode cX10_either 6 = .ok (.iload_n 2, 1) := by decide +kernel
theorem dX10_either_7 : decode cX10_either 7 = .ok (.if_icmp .ne 7, 3) := by decide +kernel
theorem dX10_either_10 : decode cX10_either 10 = .ok (.iload_n 2, 1) := by decide +kernel
theorem dX10_either_11 : decode cX10_either 11 = .ok (.goto 32, 3) := by decide +kernel
theorem dX10_either_14 : decode cX10_either 14 = .ok (.iload_n 2, 1) := by decide +kernel
theorem dX10_either_15 : decode cX10_either 15 = .ok (.iconst 1, 1) := by decide +kernel
theorem dX10_either_16 : decode cX10_either 16 = .ok (.if_icmp .ne 7, 3) := by decide +kernel
theorem dX10_either_19 : decode cX10_either 19 = .ok (.iload_n 1, 1) := by decide +kernel
theorem dX10_either_20 : decode cX10_either 20 = .ok (.goto 23, 3) := by decide +kernel
theorem dX10_either_23 : decode cX10_either 23 = .ok (.iload_n 1, 1) := by decide +kernel
theorem dX10_either_24 : decode cX10_either 24 = .ok (.ifCond .eq 7, 3) := by decide +kernel
theorem dX10_either_27 : decode cX10_either 27 = .ok (.iload_n 2, 1) := by decide +kernel
theorem dX10_either_28 : decode cX10_either 28 = .ok (.ifCond .ne 7, 3) := by decide +kernel
theorem dX10_either_31 : decode cX10_either 31 = .ok (.iconst 0, 1) := by decide +kernel
theorem dX10_either_32 : decode cX10_either 32 = .ok (.goto 11, 3) := by decide +kernel
theorem dX10_either_35 : decode cX10_either 35 = .ok (.aload_n 0, 1) := by decide +kernel
theorem dX10_either_36 : decode cX10_either 36 = .ok (.bipush 8, 2) := by decide +kernel
theorem dX10_either_38 : decode cX10_either 38 = .ok (.iload_n 1, 1) := by decide +kernel
theorem dX10_either_39 : decode cX10_either 39 = .ok (.iload_n 2, 1) := by decide +kernel
theorem dX10_either_40 : decode cX10_either 40 = .ok (.invokevirtual 175, 3) := by decide +kernel
theorem dX10_either_43 : decode cX10_either 43 = .ok (.ireturn, 1) := by decide +kernel
set_option maxRecDepth 20000 in
theorem ggX10_implies_X10_part : GoodIn wsX10_implies wsX10_part := goodIn_r _ [5, 6, 7, 8, 9, 10, 11, 12, 4, 13, 14, 15, 16, 17, 18, 19, 20, 21, 22, 23, 24, 25, 26, 27, 28, 29, 30, 31, 32, 33, 34, 35, 36, 37, 38, 39, 40, 41, 42, 43, 44, 45, 46, 47, 48, 49, 50, 51, 52, 53, 54, 55, 56, 57, 58, 59, 60, 61] (by decide +kernel) (by decide +kernel)
set_option maxRecDepth 20000 in
theorem gX10_implies_X10_part : GoodIn wsX10_implies (wsV RX10 175 RX10 yX10_part wsX10_part) := goodIn_app (goodIn_of _ (by decide +kernel)) ggX10_implies_X10_part
theorem dX10_implies_0 : decode cX10_implies 0 = .ok (.iload_n 1, 1) := by decide +kernel
theorem dX10_implies_1 : decode cX10_implies 1 = .ok (.ifCond .ne 7, 3) := by decide +kernel
theorem dX10_implies_4 : decode cX10_implies 4 = .ok (.iload_n 2, 1) := by decide +kernel
theorem dX10_implies_5 : decode cX10_implies 5 = .ok (.goto 29, 3) := by decide +kernel
theorem dX10_implies_8 : decode cX10_implies 8 = .ok (.iload_n 1, 1) := by decide +kernel
theorem dX10_implies_9 : decode cX10_implies 9 = .ok (.iconst 1, 1) := by decide +kernel
theorem dX10_implies_10 : decode cX10_implies 10 = .ok (.if_icmp .eq 12, 3) := by decide +kernel
theorem dX10_implies_13 : decode cX10_implies 13 = .ok (.iload_n 2, 1) := by decide +kernel
theorem dX10_implies_14 : decode cX10_implies 14 = .ok (.ifCond .eq 8, 3) := by decide +kernel
theorem dX10_implies_17 : decode cX10_implies 17 = .ok (.iload_n 1, 1) := by decide +kernel
theorem dX10_implies_18 : decode cX10_implies 18 = .ok (.iload_n 2, 1) := by decide +kernel
theorem dX10_implies_19 : decode cX10_implies 19 = .ok (.if_icmp .ne 7, 3) := by decide +kernel
theorem dX10_implies_22 : decode cX10_implies 22 = .ok (.iconst 0, 1) := by decide +kernel
theorem dX10_implies_23 : decode cX10_implies 23 = .ok (.goto 11, 3) := by decide +kernel
theorem dX10_implies_26 : decode cX10_implies 26 = .ok (.aload_n 0, 1) := by decide +kernel
theorem dX10_implies_27 : decode cX10_implies 27 = .ok (.bipush 9, 2) := by decide +kernel
theorem dX10_implies_29 : decode cX10_implies 29 = .ok (.iload_n 1, 1) := by decide +kernel
theorem dX10_implies_30 : decode cX10_implies 30 = .ok (.iload_n 2, 1) := by decide +kernel
theorem dX10_implies_31 : decode cX10_implies 31 = .ok (.invokevirtual 175, 3) := by decide +kernel
theorem dX10_implies_34 : decode cX10_implies 34 = .ok (.ireturn, 1) := by decide +kernel
theorem dX10_isIn_0 : decode cX10_isIn 0 = .ok (.iload_n 0, 1) := by decide +kernel
theorem dX10_isIn_1 : decode cX10_isIn 1 = .ok (.iload_n 1, 1) := by decide +kernel
theorem dX10_isIn_2 : decode cX10_isIn 2 = .ok (.ishr, 1) := by decide +kernel
theorem dX10_isIn_3 : decode cX10_isIn 3 = .ok (.iconst 1, 1) := by decide +kernel
theorem dX10_isIn_4 : decode cX10_isIn 4 = .ok (.iand, 1) := by decide +kernel
theorem dX10_isIn_5 : decode cX10_isIn 5 = .ok (.iconst 1, 1) := by decide +kernel
theorem dX10_isIn_6 : decode cX10_isIn 6 = .ok (.if_icmp .ne 7, 3) := by decide +kernel
theorem dX10_isIn_9 : decode cX10_isIn 9 = .ok (.iconst 1, 1) := by decide +kernel
theorem dX10_isIn_10 : decode cX10_isIn 10 = .ok (.goto 4, 3) := by decide +kernel
theorem dX10_isIn_13 : decode cX10_isIn 13 = .ok (.iconst 0, 1) := by decide +kernel
theorem dX10_isIn_14 : decode cX10_isIn 14 = .ok (.ireturn, 1) := by decide +kernel
set_option maxRecDepth 20000 in
theorem ggX10_isKnownIn_X10_isIn : GoodIn wsX10_isKnownIn wsX10_isIn := goodIn_r _ [4] (by decide +kernel) (by decide +kernel)
set_option maxRecDepth 20000 in
theorem gX10_isKnownIn_X10_isIn : GoodIn wsX10_isKnownIn (va_wsS RX10 182 yX10_isIn wsX10_isIn) := goodIn_app (goodIn_of _ (by decide +kernel)) ggX10_isKnownIn_X10_isIn
theorem dX10_isKnownIn_0 : decode cX10_isKnownIn 0 = .ok (.iload_n 0, 1) := by decide +kernel
theorem dX10_isKnownIn_1 : decode cX10_isKnownIn 1 = .ok (.ifCond .ne 7, 3) := by decide +kernel
theorem dX10_isKnownIn_4 : decode cX10_isKnownIn 4 = .ok (.iconst 2, 1) := by decide +kernel
theorem dX10_isKnownIn_5 : decode cX10_isKnownIn 5 = .ok (.goto 22, 3) := by decide +kernel
theorem dX10_isKnownIn_8 : decode cX10_isKnownIn 8 = .ok (.iload_n 0, 1) := by decide +kernel
theorem dX10_isKnownIn_9 : decode cX10_isKnownIn 9 = .ok (.iconst 1, 1) := by decide +kernel
theorem dX10_isKnownIn_10 : decode cX10_isKnownIn 10 = .ok (.if_icmp .ne 7, 3) := by decide +kernel
theorem dX10_isKnownIn_13 : decode cX10_isKnownIn 13 = .ok (.iconst 3, 1) := by decide +kernel
theorem dX10_isKnownIn_14 : decode cX10_isKnownIn 14 = .ok (.goto 13, 3) := by decide +kernel
theorem dX10_isKnownIn_17 : decode cX10_isKnownIn 17 = .ok (.iload_n 0, 1) := by decide +kernel
theorem dX10_isKnownIn_18 : decode cX10_isKnownIn 18 = .ok (.iconst 2, 1) := by decide +kernel
theorem dX10_isKnownIn_19 : decode cX10_isKnownIn 19 = .ok (.if_icmp .ne 7, 3) := by decide +kernel
theorem dX10_isKnownIn_22 : decode cX10_isKnownIn 22 = .ok (.iconst 4, 1) := by decide +kernel
theorem dX10_isKnownIn_23 : decode cX10_isKnownIn 23 = .ok (.goto 4, 3) := by decide +kernel
theorem dX10_isKnownIn_26 : decode cX10_isKnownIn 26 = .ok (.iconst 5, 1) := by decide +kernel
theorem dX10_isKnownIn_27 : decode cX10_isKnownIn 27 = .ok (.istore 4, 2) := by decide +kernel
theorem dX10_isKnownIn_29 : decode cX10_isKnownIn 29 = .ok (.iload_n 1, 1) := by decide +kernel
theorem dX10_isKnownIn_30 : decode cX10_isKnownIn 30 = .ok (.istore 5, 2) := by decide +kernel
theorem dX10_isKnownIn_32 : decode cX10_isKnownIn 32 = .ok (.iconst 0, 1) := by decide +kernel
theorem dX10_isKnownIn_33 : decode cX10_isKnownIn 33 = .ok (.istore 6, 2) := by decide +kernel
theorem dX10_isKnownIn_35 : decode cX10_isKnownIn 35 = .ok (.iload 6, 2) := by decide +kernel
theorem dX10_isKnownIn_37 : decode cX10_isKnownIn 37 = .ok (.iload_n 3, 1) := by decide +kernel
theorem dX10_isKnownIn_38 : decode cX10_isKnownIn 38 = .ok (.if_icmp .ge 16, 3) := by decide +kernel
theorem dX10_isKnownIn_41 : decode cX10_isKnownIn 41 = .ok (.iload 5, 2) := by decide +kernel
theorem dX10_isKnownIn_43 : decode cX10_isKnownIn 43 = .ok (.iload 4, 2) := by decide +kernel
theorem dX10_isKnownIn_45 : decode cX10_isKnownIn 45 = .ok (.idiv, 1) := by decide +kernel
theorem dX10_isKnownIn_46 : decode cX10_isKnownIn 46 = .ok (.istore 5, 2) := by decide +kernel
theorem dX10_isKnownIn_48 : decode cX10_isKnownIn 48 = .ok (.iinc 6 1, 3) := by decide +kernel
theorem dX10_isKnownIn_51 : decode cX10_isKnownIn 51 = .ok (.goto (-16), 3) := by decide +kernel
theorem dX10_isKnownIn_54 : decode cX10_isKnownIn 54 = .ok (.iload 5, 2) := by decide +kernel
theorem dX10_isKnownIn_56 : decode cX10_isKnownIn 56 = .ok (.iload 4, 2) := by decide +kernel
theorem dX10_isKnownIn_58 : decode cX10_isKnownIn 58 = .ok (.irem, 1) := by decide +kernel
theorem dX10_isKnownIn_59 : decode cX10_isKnownIn 59 = .ok (.istore 5, 2) := by decide +kernel
theorem dX10_isKnownIn_61 : decode cX10_isKnownIn 61 = .ok (.iload_n 0, 1) := by decide +kernel
theorem dX10_isKnownIn_62 : decode cX10_isKnownIn 62 = .ok (.iconst 3, 1) := by decide +kernel
theorem dX10_isKnownIn_63 : decode cX10_isKnownIn 63 = .ok (.if_icmp .ge 20, 3) := by decide +kernel
theorem dX10_isKnownIn_66 : decode cX10_isKnownIn 66 = .ok (.iload_n 2, 1) := by decide +kernel
theorem dX10_isKnownIn_67 : decode cX10_isKnownIn 67 = .ok (.iload 4, 2) := by decide +kernel
theorem dX10_isKnownIn_69 : decode cX10_isKnownIn 69 = .ok (.iconst 1, 1) := by decide +kernel
theorem dX10_isKnownIn_70 : decode cX10_isKnownIn 70 = .ok (.isub, 1) := by decide +kernel
theorem dX10_isKnownIn_71 : decode cX10_isKnownIn 71 = .ok (.iload 5, 2) := by decide +kernel
theorem dX10_isKnownIn_73 : decode cX10_isKnownIn 73 = .ok (.isub, 1) := by decide +kernel
theorem dX10_isKnownIn_74 : decode cX10_isKnownIn 74 = .ok (.if_icmp .lt 7, 3) := by decide +kernel
theorem dX10_isKnownIn_77 : decode cX10_isKnownIn 77 = .ok (.iconst 1, 1) := by decide +kernel
theorem dX10_isKnownIn_78 : decode cX10_isKnownIn 78 = .ok (.goto 4, 3) := by decide +kernel
theorem dX10_isKnownIn_81 : decode cX10_isKnownIn 81 = .ok (.iconst 0, 1) := by decide +kernel
theorem dX10_isKnownIn_82 : decode cX10_isKnownIn 82 = .ok (.ireturn, 1) := by decide +kernel
theorem dX10_isKnownIn_83 : decode cX10_isKnownIn 83 = .ok (.iload 5, 2) := by decide +kernel
theorem dX10_isKnownIn_85 : decode cX10_isKnownIn 85 = .ok (.iconst 4, 1) := by decide +kernel
theorem dX10_isKnownIn_86 : decode cX10_isKnownIn 86 = .ok (.if_icmp .eq 18, 3) := by decide +kernel
theorem dX10_isKnownIn_89 : decode cX10_isKnownIn 89 = .ok (.iload_n 2, 1) := by decide +kernel
theorem dX10_isKnownIn_90 : decode cX10_isKnownIn 90 = .ok (.ifCond .le 18, 3) := by decide +kernel
theorem dX10_isKnownIn_93 : decode cX10_isKnownIn 93 = .ok (.iload 5, 2) := by decide +kernel
theorem dX10_isKnownIn_95 : decode cX10_isKnownIn 95 = .ok (.iload_n 2, 1) := by decide +kernel
theorem dX10_isKnownIn_96 : decode cX10_isKnownIn 96 = .ok (.iconst 1, 1) := by decide +kernel
theorem dX10_isKnownIn_97 : decode cX10_isKnownIn 97 = .ok (.isub, 1) := by decide +kernel
theorem dX10_isKnownIn_98 : decode cX10_isKnownIn 98 = .ok (.invokestatic 182, 3) := by decide +kernel
theorem dX10_isKnownIn_101 : decode cX10_isKnownIn 101 = .ok (.ifCond .eq 7, 3) := by decide +kernel
theorem dX10_isKnownIn_104 : decode cX10_isKnownIn 104 = .ok (.iconst 1, 1) := by decide +kernel
theorem dX10_isKnownIn_105 : decode cX10_isKnownIn 105 = .ok (.goto 4, 3) := by decide +kernel
theorem dX10_isKnownIn_108 : decode cX10_isKnownIn 108 = .ok (.iconst 0, 1) := by decide +kernel
theorem dX10_isKnownIn_109 : decode cX10_isKnownIn 109 = .ok (.ireturn, 1) := by decide +kernel
theorem dX10_models_0 : decode cX10_models 0 = .ok (.iload_n 0, 1) := by decide +kernel
theorem dX10_models_1 : decode cX10_models 1 = .ok (.ifCond .ne 8, 3) := by decide +kernel
theorem dX10_models_4 : decode cX10_models 4 = .ok (.bipush 16, 2) := by decide +kernel
theorem dX10_models_6 : decode cX10_models 6 = .ok (.goto 27, 3) := by decide +kernel
theorem dX10_models_9 : decode cX10_models 9 = .ok (.iload_n 0, 1) := by decide +kernel
theorem dX10_models_10 : decode cX10_models 10 = .ok (.iconst 1, 1) := by decide +kernel
theorem dX10_models_11 : decode cX10_models 11 = .ok (.if_icmp .ne 8, 3) := by decide +kernel
theorem dX10_models_14 : decode cX10_models 14 = .ok (.bipush 81, 2) := by decide +kernel
theorem dX10_models_16 : decode cX10_models 16 = .ok (.goto 17, 3) := by decide +kernel
theorem dX10_models_19 : decode cX10_models 19 = .ok (.iload_n 0, 1) := by decide +kernel
theorem dX10_models_20 : decode cX10_models 20 = .ok (.iconst 2, 1) := by decide +kernel
theorem dX10_models_21 : decode cX10_models 21 = .ok (.if_icmp .ne 9, 3) := by decide +kernel
theorem dX10_models_24 : decode cX10_models 24 = .ok (.sipush 256, 3) := by decide +kernel
theorem dX10_models_27 : decode cX10_models 27 = .ok (.goto 6, 3) := by decide +kernel
theorem dX10_models_30 : decode cX10_models 30 = .ok (.sipush 625, 3) := by decide +kernel
theorem dX10_models_33 : decode cX10_models 33 = .ok (.ireturn, 1) := by decide +kernel
theorem dX10_wordsOf_0 : decode cX10_wordsOf 0 = .ok (.iload_n 0, 1) := by decide +kernel
theorem dX10_wordsOf_1 : decode cX10_wordsOf 1 = .ok (.ifCond .ne 7, 3) := by decide +kernel
theorem dX10_wordsOf_4 : decode cX10_wordsOf 4 = .ok (.iconst 1, 1) := by decide +kernel
theorem dX10_wordsOf_5 : decode cX10_wordsOf 5 = .ok (.goto 24, 3) := by decide +kernel
theorem dX10_wordsOf_8 : decode cX10_wordsOf 8 = .ok (.iload_n 0, 1) := by decide +kernel
theorem dX10_wordsOf_9 : decode cX10_wordsOf 9 = .ok (.iconst 1, 1) := by decide +kernel
theorem dX10_wordsOf_10 : decode cX10_wordsOf 10 = .ok (.if_icmp .ne 7, 3) := by decide +kernel
theorem dX10_wordsOf_13 : decode cX10_wordsOf 13 = .ok (.iconst 3, 1) := by decide +kernel
theorem dX10_wordsOf_14 : decode cX10_wordsOf 14 = .ok (.goto 15, 3) := by decide +kernel
theorem dX10_wordsOf_17 : decode cX10_wordsOf 17 = .ok (.iload_n 0, 1) := by decide +kernel
theorem dX10_wordsOf_18 : decode cX10_wordsOf 18 = .ok (.iconst 2, 1) := by decide +kernel
theorem dX10_wordsOf_19 : decode cX10_wordsOf 19 = .ok (.if_icmp .ne 8, 3) := by decide +kernel
theorem dX10_wordsOf_22 : decode cX10_wordsOf 22 = .ok (.bipush 8, 2) := by decide +kernel
theorem dX10_wordsOf_24 : decode cX10_wordsOf 24 = .ok (.goto 5, 3) := by decide +kernel
theorem dX10_wordsOf_27 : decode cX10_wordsOf 27 = .ok (.bipush 20, 2) := by decide +kernel
theorem dX10_wordsOf_29 : decode cX10_wordsOf 29 = .ok (.ireturn, 1) := by decide +kernel
theorem dX10_begin_0 : decode cX10_begin 0 = .ok (.iload_n 0, 1) := by decide +kernel
theorem dX10_begin_1 : decode cX10_begin 1 = .ok (.ifCond .ne 7, 3) := by decide +kernel
theorem dX10_begin_4 : decode cX10_begin 4 = .ok (.iconst 0, 1) := by decide +kernel
theorem dX10_begin_5 : decode cX10_begin 5 = .ok (.goto 24, 3) := by decide +kernel
theorem dX10_begin_8 : decode cX10_begin 8 = .ok (.iload_n 0, 1) := by decide +kernel
theorem dX10_begin_9 : decode cX10_begin 9 = .ok (.iconst 1, 1) := by decide +kernel
theorem dX10_begin_10 : decode cX10_begin 10 = .ok (.if_icmp .ne 7, 3) := by decide +kernel
theorem dX10_begin_13 : decode cX10_begin 13 = .ok (.iconst 1, 1) := by decide +kernel
theorem dX10_begin_14 : decode cX10_begin 14 = .ok (.goto 15, 3) := by decide +kernel
theorem dX10_begin_17 : decode cX10_begin 17 = .ok (.iload_n 0, 1) := by decide +kernel
theorem dX10_begin_18 : decode cX10_begin 18 = .ok (.iconst 2, 1) := by decide +kernel
theorem dX10_begin_19 : decode cX10_begin 19 = .ok (.if_icmp .ne 8, 3) := by decide +kernel
theorem dX10_begin_22 : decode cX10_begin 22 = .ok (.bipush 7, 2) := by decide +kernel
theorem dX10_begin_24 : decode cX10_begin 24 = .ok (.goto 5, 3) := by decide +kernel
theorem dX10_begin_27 : decode cX10_begin 27 = .ok (.bipush 31, 2) := by decide +kernel
theorem dX10_begin_29 : decode cX10_begin 29 = .ok (.ireturn, 1) := by decide +kernel
set_option maxRecDepth 20000 in
theorem ggX10_looksAt_X10_wordsOf : GoodIn wsX10_looksAt wsX10_wordsOf := goodIn_r _ [6] (by decide +kernel) (by decide +kernel)
set_option maxRecDepth 20000 in
theorem gX10_looksAt_X10_wordsOf : GoodIn wsX10_looksAt (va_wsS RX10 185 yX10_wordsOf wsX10_wordsOf) := goodIn_app (goodIn_of _ (by decide +kernel)) ggX10_looksAt_X10_wordsOf
set_option maxRecDepth 20000 in
theorem ggX10_looksAt_X10_begin : GoodIn wsX10_looksAt wsX10_begin := goodIn_r _ [9] (by decide +kernel) (by decide +kernel)
set_option maxRecDepth 20000 in
theorem gX10_looksAt_X10_begin : GoodIn wsX10_looksAt (va_wsS RX10 188 yX10_begin wsX10_begin) := goodIn_app (goodIn_of _ (by decide +kernel)) ggX10_looksAt_X10_begin
set_option maxRecDepth 20000 in
theorem ggX10_looksAt_X10_factWord : GoodIn wsX10_looksAt wsX10_factWord := goodIn_r _ [12, 13, 14, 5, 15, 16, 17, 18, 19, 20, 21] (by decide +kernel) (by decide +kernel)
set_option maxRecDepth 20000 in
theorem gX10_looksAt_X10_factWord : GoodIn wsX10_looksAt (va_wsS RX10 191 yX10_factWord wsX10_factWord) := goodIn_app (goodIn_of _ (by decide +kernel)) ggX10_looksAt_X10_factWord
set_option maxRecDepth 20000 in
theorem ggX10_looksAt_X10_madeWord : GoodIn wsX10_looksAt wsX10_madeWord := goodIn_r _ [25, 1, 26, 27, 2, 3, 4, 5, 6, 28, 29, 30, 31, 32, 33, 34, 35, 36, 37, 38, 39, 40, 41, 42, 43, 44, 45, 46, 47, 48, 49, 50, 51, 52] (by decide +kernel) (by decide +kernel)
set_option maxRecDepth 20000 in
theorem gX10_looksAt_X10_madeWord : GoodIn wsX10_looksAt (wsV RX10 195 RX10 yX10_madeWord wsX10_madeWord) := goodIn_app (goodIn_of _ (by decide +kernel)) ggX10_looksAt_X10_madeWord
theorem dX10_looksAt_0 : decode cX10_looksAt 0 = .ok (.iconst 0, 1) := by decide +kernel
theorem dX10_looksAt_1 : decode cX10_looksAt 1 = .ok (.istore_n 2, 1) := by decide +kernel
theorem dX10_looksAt_2 : decode cX10_looksAt 2 = .ok (.iload_n 2, 1) := by decide +kernel
theorem dX10_looksAt_3 : decode cX10_looksAt 3 = .ok (.iconst 4, 1) := by decide +kernel
theorem dX10_looksAt_4 : decode cX10_looksAt 4 = .ok (.if_icmp .ge 123, 3) := by decide +kernel
theorem dX10_looksAt_7 : decode cX10_looksAt 7 = .ok (.iload_n 2, 1) := by decide +kernel
theorem dX10_looksAt_8 : decode cX10_looksAt 8 = .ok (.invokestatic 185, 3) := by decide +kernel
theorem dX10_looksAt_11 : decode cX10_looksAt 11 = .ok (.istore_n 3, 1) := by decide +kernel
theorem dX10_looksAt_12 : decode cX10_looksAt 12 = .ok (.iload_n 2, 1) := by decide +kernel
theorem dX10_looksAt_13 : decode cX10_looksAt 13 = .ok (.iconst 3, 1) := by decide +kernel
theorem dX10_looksAt_14 : decode cX10_looksAt 14 = .ok (.if_icmp .ge 9, 3) := by decide +kernel
theorem dX10_looksAt_17 : decode cX10_looksAt 17 = .ok (.iload_n 2, 1) := by decide +kernel
theorem dX10_looksAt_18 : decode cX10_looksAt 18 = .ok (.iconst 1, 1) := by decide +kernel
theorem dX10_looksAt_19 : decode cX10_looksAt 19 = .ok (.iadd, 1) := by decide +kernel
theorem dX10_looksAt_20 : decode cX10_looksAt 20 = .ok (.goto 4, 3) := by decide +kernel
theorem dX10_looksAt_23 : decode cX10_looksAt 23 = .ok (.iconst 3, 1) := by decide +kernel
theorem dX10_looksAt_24 : decode cX10_looksAt 24 = .ok (.istore 4, 2) := by decide +kernel
theorem dX10_looksAt_26 : decode cX10_looksAt 26 = .ok (.iconst 0, 1) := by decide +kernel
theorem dX10_looksAt_27 : decode cX10_looksAt 27 = .ok (.istore 5, 2) := by decide +kernel
theorem dX10_looksAt_29 : decode cX10_looksAt 29 = .ok (.iload 5, 2) := by decide +kernel
theorem dX10_looksAt_31 : decode cX10_looksAt 31 = .ok (.iload_n 3, 1) := by decide +kernel
theorem dX10_looksAt_32 : decode cX10_looksAt 32 = .ok (.if_icmp .ge 89, 3) := by decide +kernel
theorem dX10_looksAt_35 : decode cX10_looksAt 35 = .ok (.iload 4, 2) := by decide +kernel
theorem dX10_looksAt_37 : decode cX10_looksAt 37 = .ok (.iconst 1, 1) := by decide +kernel
theorem dX10_looksAt_38 : decode cX10_looksAt 38 = .ok (.isub, 1) := by decide +kernel
theorem dX10_looksAt_39 : decode cX10_looksAt 39 = .ok (.istore 6, 2) := by decide +kernel
theorem dX10_looksAt_41 : decode cX10_looksAt 41 = .ok (.iload 6, 2) := by decide +kernel
theorem dX10_looksAt_43 : decode cX10_looksAt 43 = .ok (.ifCond .lt 72, 3) := by decide +kernel
theorem dX10_looksAt_46 : decode cX10_looksAt 46 = .ok (.iload_n 2, 1) := by decide +kernel
theorem dX10_looksAt_47 : decode cX10_looksAt 47 = .ok (.invokestatic 188, 3) := by decide +kernel
theorem dX10_looksAt_50 : decode cX10_looksAt 50 = .ok (.iload_n 3, 1) := by decide +kernel
theorem dX10_looksAt_51 : decode cX10_looksAt 51 = .ok (.iload 6, 2) := by decide +kernel
theorem dX10_looksAt_53 : decode cX10_looksAt 53 = .ok (.imul, 1) := by decide +kernel
theorem dX10_looksAt_54 : decode cX10_looksAt 54 = .ok (.iadd, 1) := by decide +kernel
theorem dX10_looksAt_55 : decode cX10_looksAt 55 = .ok (.iload 5, 2) := by decide +kernel
theorem dX10_looksAt_57 : decode cX10_looksAt 57 = .ok (.iadd, 1) := by decide +kernel
theorem dX10_looksAt_58 : decode cX10_looksAt 58 = .ok (.istore 7, 2) := by decide +kernel
theorem dX10_looksAt_60 : decode cX10_looksAt 60 = .ok (.aload_n 0, 1) := by decide +kernel
theorem dX10_looksAt_61 : decode cX10_looksAt 61 = .ok (.getfield 48, 3) := by decide +kernel
theorem dX10_looksAt_64 : decode cX10_looksAt 64 = .ok (.bipush 91, 2) := by decide +kernel
theorem dX10_looksAt_66 : decode cX10_looksAt 66 = .ok (.iload_n 1, 1) := by decide +kernel
theorem dX10_looksAt_67 : decode cX10_looksAt 67 = .ok (.imul, 1) := by decide +kernel
theorem dX10_looksAt_68 : decode cX10_looksAt 68 = .ok (.iload 7, 2) := by decide +kernel
theorem dX10_looksAt_70 : decode cX10_looksAt 70 = .ok (.iadd, 1) := by decide +kernel
theorem dX10_looksAt_71 : decode cX10_looksAt 71 = .ok (.aload_n 0, 1) := by decide +kernel
theorem dX10_looksAt_72 : decode cX10_looksAt 72 = .ok (.getfield 38, 3) := by decide +kernel
theorem dX10_looksAt_75 : decode cX10_looksAt 75 = .ok (.iload_n 1, 1) := by decide +kernel
theorem dX10_looksAt_76 : decode cX10_looksAt 76 = .ok (.iaload, 1) := by decide +kernel
theorem dX10_looksAt_77 : decode cX10_looksAt 77 = .ok (.iconst 4, 1) := by decide +kernel
theorem dX10_looksAt_78 : decode cX10_looksAt 78 = .ok (.if_icmp .ge 20, 3) := by decide +kernel
theorem dX10_looksAt_81 : decode cX10_looksAt 81 = .ok (.iload_n 2, 1) := by decide +kernel
theorem dX10_looksAt_82 : decode cX10_looksAt 82 = .ok (.iload 6, 2) := by decide +kernel
theorem dX10_looksAt_84 : decode cX10_looksAt 84 = .ok (.iload 5, 2) := by decide +kernel
theorem dX10_looksAt_86 : decode cX10_looksAt 86 = .ok (.aload_n 0, 1) := by decide +kernel
theorem dX10_looksAt_87 : decode cX10_looksAt 87 = .ok (.getfield 38, 3) := by decide +kernel
theorem dX10_looksAt_90 : decode cX10_looksAt 90 = .ok (.iload_n 1, 1) := by decide +kernel
theorem dX10_looksAt_91 : decode cX10_looksAt 91 = .ok (.iaload, 1) := by decide +kernel
theorem dX10_looksAt_92 : decode cX10_looksAt 92 = .ok (.invokestatic 191, 3) := by decide +kernel
theorem dX10_looksAt_95 : decode cX10_looksAt 95 = .ok (.goto 13, 3) := by decide +kernel
theorem dX10_looksAt_98 : decode cX10_looksAt 98 = .ok (.aload_n 0, 1) := by decide +kernel
theorem dX10_looksAt_99 : decode cX10_looksAt 99 = .ok (.iload_n 1, 1) := by decide +kernel
theorem dX10_looksAt_100 : decode cX10_looksAt 100 = .ok (.iload_n 2, 1) := by decide +kernel
theorem dX10_looksAt_101 : decode cX10_looksAt 101 = .ok (.iload 6, 2) := by decide +kernel
theorem dX10_looksAt_103 : decode cX10_looksAt 103 = .ok (.iload 7, 2) := by decide +kernel
theorem dX10_looksAt_105 : decode cX10_looksAt 105 = .ok (.invokevirtual 195, 3) := by decide +kernel
theorem dX10_looksAt_108 : decode cX10_looksAt 108 = .ok (.iastore, 1) := by decide +kernel
theorem dX10_looksAt_109 : decode cX10_looksAt 109 = .ok (.iinc 6 (-1), 3) := by decide +kernel
theorem dX10_looksAt_112 : decode cX10_looksAt 112 = .ok (.goto (-71), 3) := by decide +kernel
theorem dX10_looksAt_115 : decode cX10_looksAt 115 = .ok (.iinc 5 1, 3) := by decide +kernel
theorem dX10_looksAt_118 : decode cX10_looksAt 118 = .ok (.goto (-89), 3) := by decide +kernel
theorem dX10_looksAt_121 : decode cX10_looksAt 121 = .ok (.iinc 2 1, 3) := by decide +kernel
theorem dX10_looksAt_124 : decode cX10_looksAt 124 = .ok (.goto (-122), 3) := by decide +kernel
theorem dX10_looksAt_127 : decode cX10_looksAt 127 = .ok (.return_, 1) := by decide +kernel
set_option maxRecDepth 20000 in
theorem ggX10_factWord_X10_models : GoodIn wsX10_factWord wsX10_models := goodIn_r _ [4] (by decide +kernel) (by decide +kernel)
set_option maxRecDepth 20000 in
theorem gX10_factWord_X10_models : GoodIn wsX10_factWord (va_wsS RX10 198 yX10_models wsX10_models) := goodIn_app (goodIn_of _ (by decide +kernel)) ggX10_factWord_X10_models
set_option maxRecDepth 20000 in
theorem ggX10_factWord_X10_isKnownIn : GoodIn wsX10_factWord wsX10_isKnownIn := goodIn_r _ [7, 8, 9, 3, 10] (by decide +kernel) (by decide +kernel)
set_option maxRecDepth 20000 in
theorem gX10_factWord_X10_isKnownIn : GoodIn wsX10_factWord (va_wsS RX10 201 yX10_isKnownIn wsX10_isKnownIn) := goodIn_app (goodIn_of _ (by decide +kernel)) ggX10_factWord_X10_isKnownIn
theorem dX10_factWord_0 : decode cX10_factWord 0 = .ok (.iconst 0, 1) := by decide +kernel
theorem dX10_factWord_1 : decode cX10_factWord 1 = .ok (.istore 4, 2) := by decide +kernel
theorem dX10_factWord_3 : decode cX10_factWord 3 = .ok (.iconst 0, 1) := by decide +kernel
theorem dX10_factWord_4 : decode cX10_factWord 4 = .ok (.istore 5, 2) := by decide +kernel
theorem dX10_factWord_6 : decode cX10_factWord 6 = .ok (.iload 5, 2) := by decide +kernel
theorem dX10_factWord_8 : decode cX10_factWord 8 = .ok (.bipush 32, 2) := by decide +kernel
theorem dX10_factWord_10 : decode cX10_factWord 10 = .ok (.if_icmp .ge 52, 3) := by decide +kernel
theorem dX10_factWord_13 : decode cX10_factWord 13 = .ok (.iload 4, 2) := by decide +kernel
theorem dX10_factWord_15 : decode cX10_factWord 15 = .ok (.bipush 32, 2) := by decide +kernel
theorem dX10_factWord_17 : decode cX10_factWord 17 = .ok (.iload_n 2, 1) := by decide +kernel
theorem dX10_factWord_18 : decode cX10_factWord 18 = .ok (.imul, 1) := by decide +kernel
theorem dX10_factWord_19 : decode cX10_factWord 19 = .ok (.iload 5, 2) := by decide +kernel
theorem dX10_factWord_21 : decode cX10_factWord 21 = .ok (.iadd, 1) := by decide +kernel
theorem dX10_factWord_22 : decode cX10_factWord 22 = .ok (.iload_n 0, 1) := by decide +kernel
theorem dX10_factWord_23 : decode cX10_factWord 23 = .ok (.invokestatic 198, 3) := by decide +kernel
theorem dX10_factWord_26 : decode cX10_factWord 26 = .ok (.if_icmp .ge 26, 3) := by decide +kernel
theorem dX10_factWord_29 : decode cX10_factWord 29 = .ok (.iload_n 0, 1) := by decide +kernel
theorem dX10_factWord_30 : decode cX10_factWord 30 = .ok (.bipush 32, 2) := by decide +kernel
theorem dX10_factWord_32 : decode cX10_factWord 32 = .ok (.iload_n 2, 1) := by decide +kernel
theorem dX10_factWord_33 : decode cX10_factWord 33 = .ok (.imul, 1) := by decide +kernel
theorem dX10_factWord_34 : decode cX10_factWord 34 = .ok (.iload 5, 2) := by decide +kernel
theorem dX10_factWord_36 : decode cX10_factWord 36 = .ok (.iadd, 1) := by decide +kernel
theorem dX10_factWord_37 : decode cX10_factWord 37 = .ok (.iload_n 1, 1) := by decide +kernel
theorem dX10_factWord_38 : decode cX10_factWord 38 = .ok (.iload_n 3, 1) := by decide +kernel
theorem dX10_factWord_39 : decode cX10_factWord 39 = .ok (.invokestatic 201, 3) := by decide +kernel
theorem dX10_factWord_42 : decode cX10_factWord 42 = .ok (.ifCond .eq 10, 3) := by decide +kernel
theorem dX10_factWord_45 : decode cX10_factWord 45 = .ok (.iconst 1, 1) := by decide +kernel
theorem dX10_factWord_46 : decode cX10_factWord 46 = .ok (.iload 5, 2) := by decide +kernel
theorem dX10_factWord_48 : decode cX10_factWord 48 = .ok (.ishl, 1) := by decide +kernel
theorem dX10_factWord_49 : decode cX10_factWord 49 = .ok (.goto 4, 3) := by decide +kernel
theorem dX10_factWord_52 : decode cX10_factWord 52 = .ok (.iconst 0, 1) := by decide +kernel
theorem dX10_factWord_53 : decode cX10_factWord 53 = .ok (.ior, 1) := by decide +kernel
theorem dX10_factWord_54 : decode cX10_factWord 54 = .ok (.istore 4, 2) := by decide +kernel
theorem dX10_factWord_56 : decode cX10_factWord 56 = .ok (.iinc 5 1, 3) := by decide +kernel
theorem dX10_factWord_59 : decode cX10_factWord 59 = .ok (.goto (-53), 3) := by decide +kernel
theorem dX10_factWord_62 : decode cX10_factWord 62 = .ok (.iload 4, 2) := by decide +kernel
theorem dX10_factWord_64 : decode cX10_factWord 64 = .ok (.ireturn, 1) := by decide +kernel
set_option maxRecDepth 20000 in
theorem ggX10_madeWord_X10_wordsOf : GoodIn wsX10_madeWord wsX10_wordsOf := goodIn_r _ [8] (by decide +kernel) (by decide +kernel)
set_option maxRecDepth 20000 in
theorem gX10_madeWord_X10_wordsOf : GoodIn wsX10_madeWord (va_wsS RX10 185 yX10_wordsOf wsX10_wordsOf) := goodIn_app (goodIn_of _ (by decide +kernel)) ggX10_madeWord_X10_wordsOf
theorem dX10_madeWord_0 : decode cX10_madeWord 0 = .ok (.aload_n 0, 1) := by decide +kernel
theorem dX10_madeWord_1 : decode cX10_madeWord 1 = .ok (.getfield 48, 3) := by decide +kernel
theorem dX10_madeWord_4 : decode cX10_madeWord 4 = .ok (.bipush 91, 2) := by decide +kernel
theorem dX10_madeWord_6 : decode cX10_madeWord 6 = .ok (.aload_n 0, 1) := by decide +kernel
theorem dX10_madeWord_7 : decode cX10_madeWord 7 = .ok (.getfield 41, 3) := by decide +kernel
theorem dX10_madeWord_10 : decode cX10_madeWord 10 = .ok (.iload_n 1, 1) := by decide +kernel
theorem dX10_madeWord_11 : decode cX10_madeWord 11 = .ok (.iaload, 1) := by decide +kernel
theorem dX10_madeWord_12 : decode cX10_madeWord 12 = .ok (.imul, 1) := by decide +kernel
theorem dX10_madeWord_13 : decode cX10_madeWord 13 = .ok (.iload 4, 2) := by decide +kernel
theorem dX10_madeWord_15 : decode cX10_madeWord 15 = .ok (.iadd, 1) := by decide +kernel
theorem dX10_madeWord_16 : decode cX10_madeWord 16 = .ok (.iaload, 1) := by decide +kernel
theorem dX10_madeWord_17 : decode cX10_madeWord 17 = .ok (.istore 5, 2) := by decide +kernel
theorem dX10_madeWord_19 : decode cX10_madeWord 19 = .ok (.aload_n 0, 1) := by decide +kernel
theorem dX10_madeWord_20 : decode cX10_madeWord 20 = .ok (.getfield 48, 3) := by decide +kernel
theorem dX10_madeWord_23 : decode cX10_madeWord 23 = .ok (.bipush 91, 2) := by decide +kernel
theorem dX10_madeWord_25 : decode cX10_madeWord 25 = .ok (.aload_n 0, 1) := by decide +kernel
theorem dX10_madeWord_26 : decode cX10_madeWord 26 = .ok (.getfield 44, 3) := by decide +kernel
theorem dX10_madeWord_29 : decode cX10_madeWord 29 = .ok (.iload_n 1, 1) := by decide +kernel
theorem dX10_madeWord_30 : decode cX10_madeWord 30 = .ok (.iaload, 1) := by decide +kernel
theorem dX10_madeWord_31 : decode cX10_madeWord 31 = .ok (.imul, 1) := by decide +kernel
theorem dX10_madeWord_32 : decode cX10_madeWord 32 = .ok (.iload 4, 2) := by decide +kernel
theorem dX10_madeWord_34 : decode cX10_madeWord 34 = .ok (.iadd, 1) := by decide +kernel
theorem dX10_madeWord_35 : decode cX10_madeWord 35 = .ok (.iaload, 1) := by decide +kernel
theorem dX10_madeWord_36 : decode cX10_madeWord 36 = .ok (.istore 6, 2) := by decide +kernel
theorem dX10_madeWord_38 : decode cX10_madeWord 38 = .ok (.aload_n 0, 1) := by decide +kernel
theorem dX10_madeWord_39 : decode cX10_madeWord 39 = .ok (.getfield 38, 3) := by decide +kernel
theorem dX10_madeWord_42 : decode cX10_madeWord 42 = .ok (.iload_n 1, 1) := by decide +kernel
theorem dX10_madeWord_43 : decode cX10_madeWord 43 = .ok (.iaload, 1) := by decide +kernel
theorem dX10_madeWord_44 : decode cX10_madeWord 44 = .ok (.bipush 9, 2) := by decide +kernel
theorem dX10_madeWord_46 : decode cX10_madeWord 46 = .ok (.if_icmp .eq 56, 3) := by decide +kernel
theorem dX10_madeWord_49 : decode cX10_madeWord 49 = .ok (.aload_n 0, 1) := by decide +kernel
theorem dX10_madeWord_50 : decode cX10_madeWord 50 = .ok (.getfield 38, 3) := by decide +kernel
theorem dX10_madeWord_53 : decode cX10_madeWord 53 = .ok (.iload_n 1, 1) := by decide +kernel
theorem dX10_madeWord_54 : decode cX10_madeWord 54 = .ok (.iaload, 1) := by decide +kernel
theorem dX10_madeWord_55 : decode cX10_madeWord 55 = .ok (.iconst 4, 1) := by decide +kernel
theorem dX10_madeWord_56 : decode cX10_madeWord 56 = .ok (.if_icmp .ne 7, 3) := by decide +kernel
theorem dX10_madeWord_59 : decode cX10_madeWord 59 = .ok (.iconst (-1), 1) := by decide +kernel
theorem dX10_madeWord_60 : decode cX10_madeWord 60 = .ok (.goto 41, 3) := by decide +kernel
theorem dX10_madeWord_63 : decode cX10_madeWord 63 = .ok (.aload_n 0, 1) := by decide +kernel
theorem dX10_madeWord_64 : decode cX10_madeWord 64 = .ok (.getfield 38, 3) := by decide +kernel
theorem dX10_madeWord_67 : decode cX10_madeWord 67 = .ok (.iload_n 1, 1) := by decide +kernel
theorem dX10_madeWord_68 : decode cX10_madeWord 68 = .ok (.iaload, 1) := by decide +kernel
theorem dX10_madeWord_69 : decode cX10_madeWord 69 = .ok (.iconst 5, 1) := by decide +kernel
theorem dX10_madeWord_70 : decode cX10_madeWord 70 = .ok (.if_icmp .ne 7, 3) := by decide +kernel
theorem dX10_madeWord_73 : decode cX10_madeWord 73 = .ok (.iconst 0, 1) := by decide +kernel
theorem dX10_madeWord_74 : decode cX10_madeWord 74 = .ok (.goto 27, 3) := by decide +kernel
theorem dX10_madeWord_77 : decode cX10_madeWord 77 = .ok (.aload_n 0, 1) := by decide +kernel
theorem dX10_madeWord_78 : decode cX10_madeWord 78 = .ok (.getfield 38, 3) := by decide +kernel
theorem dX10_madeWord_81 : decode cX10_madeWord 81 = .ok (.iload_n 1, 1) := by decide +kernel
theorem dX10_madeWord_82 : decode cX10_madeWord 82 = .ok (.iaload, 1) := by decide +kernel
theorem dX10_madeWord_83 : decode cX10_madeWord 83 = .ok (.bipush 7, 2) := by decide +kernel
theorem dX10_madeWord_85 : decode cX10_madeWord 85 = .ok (.if_icmp .ne 11, 3) := by decide +kernel
theorem dX10_madeWord_88 : decode cX10_madeWord 88 = .ok (.iload 5, 2) := by decide +kernel
theorem dX10_madeWord_90 : decode cX10_madeWord 90 = .ok (.iload 6, 2) := by decide +kernel
theorem dX10_madeWord_92 : decode cX10_madeWord 92 = .ok (.iand, 1) := by decide +kernel
theorem dX10_madeWord_93 : decode cX10_madeWord 93 = .ok (.goto 8, 3) := by decide +kernel
theorem dX10_madeWord_96 : decode cX10_madeWord 96 = .ok (.iload 5, 2) := by decide +kernel
theorem dX10_madeWord_98 : decode cX10_madeWord 98 = .ok (.iload 6, 2) := by decide +kernel
theorem dX10_madeWord_100 : decode cX10_madeWord 100 = .ok (.ior, 1) := by decide +kernel
theorem dX10_madeWord_101 : decode cX10_madeWord 101 = .ok (.ireturn, 1) := by decide +kernel
theorem dX10_madeWord_102 : decode cX10_madeWord 102 = .ok (.iload 5, 2) := by decide +kernel
theorem dX10_madeWord_104 : decode cX10_madeWord 104 = .ok (.iconst (-1), 1) := by decide +kernel
theorem dX10_madeWord_105 : decode cX10_madeWord 105 = .ok (.ixor, 1) := by decide +kernel
theorem dX10_madeWord_106 : decode cX10_madeWord 106 = .ok (.iload 6, 2) := by decide +kernel
theorem dX10_madeWord_108 : decode cX10_madeWord 108 = .ok (.ior, 1) := by decide +kernel
theorem dX10_madeWord_109 : decode cX10_madeWord 109 = .ok (.istore 7, 2) := by decide +kernel
theorem dX10_madeWord_111 : decode cX10_madeWord 111 = .ok (.iload_n 2, 1) := by decide +kernel
theorem dX10_madeWord_112 : decode cX10_madeWord 112 = .ok (.invokestatic 185, 3) := by decide +kernel
theorem dX10_madeWord_115 : decode cX10_madeWord 115 = .ok (.istore 8, 2) := by decide +kernel
theorem dX10_madeWord_117 : decode cX10_madeWord 117 = .ok (.iload_n 2, 1) := by decide +kernel
theorem dX10_madeWord_118 : decode cX10_madeWord 118 = .ok (.iconst 3, 1) := by decide +kernel
theorem dX10_madeWord_119 : decode cX10_madeWord 119 = .ok (.if_icmp .ne 48, 3) := by decide +kernel
theorem dX10_madeWord_122 : decode cX10_madeWord 122 = .ok (.iload_n 3, 1) := by decide +kernel
theorem dX10_madeWord_123 : decode cX10_madeWord 123 = .ok (.ifCond .ne 44, 3) := by decide +kernel
theorem dX10_madeWord_126 : decode cX10_madeWord 126 = .ok (.iload 7, 2) := by decide +kernel
theorem dX10_madeWord_128 : decode cX10_madeWord 128 = .ok (.aload_n 0, 1) := by decide +kernel
theorem dX10_madeWord_129 : decode cX10_madeWord 129 = .ok (.getfield 48, 3) := by decide +kernel
theorem dX10_madeWord_132 : decode cX10_madeWord 132 = .ok (.bipush 91, 2) := by decide +kernel
theorem dX10_madeWord_134 : decode cX10_madeWord 134 = .ok (.iload_n 1, 1) := by decide +kernel
theorem dX10_madeWord_135 : decode cX10_madeWord 135 = .ok (.imul, 1) := by decide +kernel
theorem dX10_madeWord_136 : decode cX10_madeWord 136 = .ok (.iload 4, 2) := by decide +kernel
