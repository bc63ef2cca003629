theorem dX10_finds_80 : decode cX10_finds 80 = .ok (.iinc 3 1, 3) := by decide +kernel
theorem dX10_finds_83 : decode cX10_finds 83 = .ok (.goto (-73), 3) := by decide +kernel
theorem dX10_finds_86 : decode cX10_finds 86 = .ok (.return_, 1) := by decide +kernel
theorem dX10_areSame_0 : decode cX10_areSame 0 = .ok (.iload_n 2, 1) := by decide +kernel
theorem dX10_areSame_1 : decode cX10_areSame 1 = .ok (.aload_n 0, 1) := by decide +kernel
theorem dX10_areSame_2 : decode cX10_areSame 2 = .ok (.getfield 63, 3) := by decide +kernel
theorem dX10_areSame_5 : decode cX10_areSame 5 = .ok (.iload_n 2, 1) := by decide +kernel
theorem dX10_areSame_6 : decode cX10_areSame 6 = .ok (.iaload, 1) := by decide +kernel
theorem dX10_areSame_7 : decode cX10_areSame 7 = .ok (.isub, 1) := by decide +kernel
theorem dX10_areSame_8 : decode cX10_areSame 8 = .ok (.iload_n 3, 1) := by decide +kernel
theorem dX10_areSame_9 : decode cX10_areSame 9 = .ok (.aload_n 0, 1) := by decide +kernel
theorem dX10_areSame_10 : decode cX10_areSame 10 = .ok (.getfield 63, 3) := by decide +kernel
theorem dX10_areSame_13 : decode cX10_areSame 13 = .ok (.iload_n 3, 1) := by decide +kernel
theorem dX10_areSame_14 : decode cX10_areSame 14 = .ok (.iaload, 1) := by decide +kernel
theorem dX10_areSame_15 : decode cX10_areSame 15 = .ok (.isub, 1) := by decide +kernel
theorem dX10_areSame_16 : decode cX10_areSame 16 = .ok (.if_icmp .ne 7, 3) := by decide +kernel
theorem dX10_areSame_19 : decode cX10_areSame 19 = .ok (.iconst 1, 1) := by decide +kernel
theorem dX10_areSame_20 : decode cX10_areSame 20 = .ok (.goto 4, 3) := by decide +kernel
theorem dX10_areSame_23 : decode cX10_areSame 23 = .ok (.iconst 0, 1) := by decide +kernel
theorem dX10_areSame_24 : decode cX10_areSame 24 = .ok (.istore 4, 2) := by decide +kernel
theorem dX10_areSame_26 : decode cX10_areSame 26 = .ok (.iconst 0, 1) := by decide +kernel
theorem dX10_areSame_27 : decode cX10_areSame 27 = .ok (.istore 5, 2) := by decide +kernel
theorem dX10_areSame_29 : decode cX10_areSame 29 = .ok (.iload 5, 2) := by decide +kernel
theorem dX10_areSame_31 : decode cX10_areSame 31 = .ok (.iload_n 2, 1) := by decide +kernel
theorem dX10_areSame_32 : decode cX10_areSame 32 = .ok (.aload_n 0, 1) := by decide +kernel
theorem dX10_areSame_33 : decode cX10_areSame 33 = .ok (.getfield 63, 3) := by decide +kernel
theorem dX10_areSame_36 : decode cX10_areSame 36 = .ok (.iload_n 2, 1) := by decide +kernel
theorem dX10_areSame_37 : decode cX10_areSame 37 = .ok (.iaload, 1) := by decide +kernel
theorem dX10_areSame_38 : decode cX10_areSame 38 = .ok (.isub, 1) := by decide +kernel
theorem dX10_areSame_39 : decode cX10_areSame 39 = .ok (.if_icmp .gt 56, 3) := by decide +kernel
theorem dX10_areSame_42 : decode cX10_areSame 42 = .ok (.iload 4, 2) := by decide +kernel
theorem dX10_areSame_44 : decode cX10_areSame 44 = .ok (.ifCond .eq 51, 3) := by decide +kernel
theorem dX10_areSame_47 : decode cX10_areSame 47 = .ok (.aload_n 0, 1) := by decide +kernel
theorem dX10_areSame_48 : decode cX10_areSame 48 = .ok (.getfield 7, 3) := by decide +kernel
theorem dX10_areSame_51 : decode cX10_areSame 51 = .ok (.iload_n 1, 1) := by decide +kernel
theorem dX10_areSame_52 : decode cX10_areSame 52 = .ok (.aload_n 0, 1) := by decide +kernel
theorem dX10_areSame_53 : decode cX10_areSame 53 = .ok (.getfield 63, 3) := by decide +kernel
theorem dX10_areSame_56 : decode cX10_areSame 56 = .ok (.iload_n 2, 1) := by decide +kernel
theorem dX10_areSame_57 : decode cX10_areSame 57 = .ok (.iaload, 1) := by decide +kernel
theorem dX10_areSame_58 : decode cX10_areSame 58 = .ok (.iadd, 1) := by decide +kernel
theorem dX10_areSame_59 : decode cX10_areSame 59 = .ok (.iload 5, 2) := by decide +kernel
theorem dX10_areSame_61 : decode cX10_areSame 61 = .ok (.iadd, 1) := by decide +kernel
theorem dX10_areSame_62 : decode cX10_areSame 62 = .ok (.iaload, 1) := by decide +kernel
theorem dX10_areSame_63 : decode cX10_areSame 63 = .ok (.aload_n 0, 1) := by decide +kernel
theorem dX10_areSame_64 : decode cX10_areSame 64 = .ok (.getfield 7, 3) := by decide +kernel
theorem dX10_areSame_67 : decode cX10_areSame 67 = .ok (.iload_n 1, 1) := by decide +kernel
theorem dX10_areSame_68 : decode cX10_areSame 68 = .ok (.aload_n 0, 1) := by decide +kernel
theorem dX10_areSame_69 : decode cX10_areSame 69 = .ok (.getfield 63, 3) := by decide +kernel
theorem dX10_areSame_72 : decode cX10_areSame 72 = .ok (.iload_n 3, 1) := by decide +kernel
theorem dX10_areSame_73 : decode cX10_areSame 73 = .ok (.iaload, 1) := by decide +kernel
theorem dX10_areSame_74 : decode cX10_areSame 74 = .ok (.iadd, 1) := by decide +kernel
theorem dX10_areSame_75 : decode cX10_areSame 75 = .ok (.iload 5, 2) := by decide +kernel
theorem dX10_areSame_77 : decode cX10_areSame 77 = .ok (.iadd, 1) := by decide +kernel
theorem dX10_areSame_78 : decode cX10_areSame 78 = .ok (.iaload, 1) := by decide +kernel
theorem dX10_areSame_79 : decode cX10_areSame 79 = .ok (.if_icmp .ne 7, 3) := by decide +kernel
theorem dX10_areSame_82 : decode cX10_areSame 82 = .ok (.iconst 1, 1) := by decide +kernel
theorem dX10_areSame_83 : decode cX10_areSame 83 = .ok (.goto 4, 3) := by decide +kernel
theorem dX10_areSame_86 : decode cX10_areSame 86 = .ok (.iconst 0, 1) := by decide +kernel
theorem dX10_areSame_87 : decode cX10_areSame 87 = .ok (.istore 4, 2) := by decide +kernel
theorem dX10_areSame_89 : decode cX10_areSame 89 = .ok (.iinc 5 1, 3) := by decide +kernel
theorem dX10_areSame_92 : decode cX10_areSame 92 = .ok (.goto (-63), 3) := by decide +kernel
theorem dX10_areSame_95 : decode cX10_areSame 95 = .ok (.iload 4, 2) := by decide +kernel
theorem dX10_areSame_97 : decode cX10_areSame 97 = .ok (.ireturn, 1) := by decide +kernel
set_option maxRecDepth 20000 in
theorem ggX10_different_X10_finds : GoodIn wsX10_different wsX10_finds := goodIn_r _ [6, 1, 7, 12, 13, 14, 15, 16, 17, 18, 19, 20, 21, 22, 23, 24, 25, 26, 27, 28, 29, 30, 31, 32, 33, 34, 35, 36] (by decide +kernel) (by decide +kernel)
set_option maxRecDepth 20000 in
theorem gX10_different_X10_finds : GoodIn wsX10_different (wsV RX10 277 RX10 yX10_finds wsX10_finds) := goodIn_app (goodIn_of _ (by decide +kernel)) ggX10_different_X10_finds
set_option maxRecDepth 20000 in
theorem ggX10_different_X10_areSame : GoodIn wsX10_different wsX10_areSame := goodIn_r _ [11, 7, 1, 12, 13, 14, 15, 16, 17, 18, 19, 20, 21, 22, 23, 24, 25, 26, 27, 28, 29, 30, 31, 32, 33, 34, 35, 36] (by decide +kernel) (by decide +kernel)
set_option maxRecDepth 20000 in
theorem gX10_different_X10_areSame : GoodIn wsX10_different (wsV RX10 280 RX10 yX10_areSame wsX10_areSame) := goodIn_app (goodIn_of _ (by decide +kernel)) ggX10_different_X10_areSame
theorem dX10_different_0 : decode cX10_different 0 = .ok (.aload_n 0, 1) := by decide +kernel
theorem dX10_different_1 : decode cX10_different 1 = .ok (.iload_n 1, 1) := by decide +kernel
theorem dX10_different_2 : decode cX10_different 2 = .ok (.invokevirtual 277, 3) := by decide +kernel
theorem dX10_different_5 : decode cX10_different 5 = .ok (.bipush 17, 2) := by decide +kernel
theorem dX10_different_7 : decode cX10_different 7 = .ok (.bipush 31, 2) := by decide +kernel
theorem dX10_different_9 : decode cX10_different 9 = .ok (.iload_n 1, 1) := by decide +kernel
theorem dX10_different_10 : decode cX10_different 10 = .ok (.imul, 1) := by decide +kernel
theorem dX10_different_11 : decode cX10_different 11 = .ok (.iadd, 1) := by decide +kernel
theorem dX10_different_12 : decode cX10_different 12 = .ok (.istore_n 2, 1) := by decide +kernel
theorem dX10_different_13 : decode cX10_different 13 = .ok (.iconst 0, 1) := by decide +kernel
theorem dX10_different_14 : decode cX10_different 14 = .ok (.istore_n 3, 1) := by decide +kernel
theorem dX10_different_15 : decode cX10_different 15 = .ok (.iconst 1, 1) := by decide +kernel
theorem dX10_different_16 : decode cX10_different 16 = .ok (.istore 4, 2) := by decide +kernel
theorem dX10_different_18 : decode cX10_different 18 = .ok (.iload 4, 2) := by decide +kernel
theorem dX10_different_20 : decode cX10_different 20 = .ok (.aload_n 0, 1) := by decide +kernel
theorem dX10_different_21 : decode cX10_different 21 = .ok (.getfield 7, 3) := by decide +kernel
theorem dX10_different_24 : decode cX10_different 24 = .ok (.iload_n 2, 1) := by decide +kernel
theorem dX10_different_25 : decode cX10_different 25 = .ok (.iaload, 1) := by decide +kernel
theorem dX10_different_26 : decode cX10_different 26 = .ok (.if_icmp .gt 65, 3) := by decide +kernel
theorem dX10_different_29 : decode cX10_different 29 = .ok (.iconst 1, 1) := by decide +kernel
theorem dX10_different_30 : decode cX10_different 30 = .ok (.istore 5, 2) := by decide +kernel
theorem dX10_different_32 : decode cX10_different 32 = .ok (.iconst 1, 1) := by decide +kernel
theorem dX10_different_33 : decode cX10_different 33 = .ok (.istore 6, 2) := by decide +kernel
theorem dX10_different_35 : decode cX10_different 35 = .ok (.iload 6, 2) := by decide +kernel
theorem dX10_different_37 : decode cX10_different 37 = .ok (.iload 4, 2) := by decide +kernel
theorem dX10_different_39 : decode cX10_different 39 = .ok (.if_icmp .ge 33, 3) := by decide +kernel
theorem dX10_different_42 : decode cX10_different 42 = .ok (.iload 5, 2) := by decide +kernel
theorem dX10_different_44 : decode cX10_different 44 = .ok (.ifCond .eq 28, 3) := by decide +kernel
theorem dX10_different_47 : decode cX10_different 47 = .ok (.aload_n 0, 1) := by decide +kernel
theorem dX10_different_48 : decode cX10_different 48 = .ok (.iload_n 2, 1) := by decide +kernel
theorem dX10_different_49 : decode cX10_different 49 = .ok (.iload 4, 2) := by decide +kernel
theorem dX10_different_51 : decode cX10_different 51 = .ok (.iload 6, 2) := by decide +kernel
theorem dX10_different_53 : decode cX10_different 53 = .ok (.invokevirtual 280, 3) := by decide +kernel
theorem dX10_different_56 : decode cX10_different 56 = .ok (.ifCond .ne 7, 3) := by decide +kernel
theorem dX10_different_59 : decode cX10_different 59 = .ok (.iconst 1, 1) := by decide +kernel
theorem dX10_different_60 : decode cX10_different 60 = .ok (.goto 4, 3) := by decide +kernel
theorem dX10_different_63 : decode cX10_different 63 = .ok (.iconst 0, 1) := by decide +kernel
theorem dX10_different_64 : decode cX10_different 64 = .ok (.istore 5, 2) := by decide +kernel
theorem dX10_different_66 : decode cX10_different 66 = .ok (.iinc 6 1, 3) := by decide +kernel
theorem dX10_different_69 : decode cX10_different 69 = .ok (.goto (-34), 3) := by decide +kernel
theorem dX10_different_72 : decode cX10_different 72 = .ok (.iload_n 3, 1) := by decide +kernel
theorem dX10_different_73 : decode cX10_different 73 = .ok (.iload 5, 2) := by decide +kernel
theorem dX10_different_75 : decode cX10_different 75 = .ok (.ifCond .eq 7, 3) := by decide +kernel
theorem dX10_different_78 : decode cX10_different 78 = .ok (.iconst 1, 1) := by decide +kernel
theorem dX10_different_79 : decode cX10_different 79 = .ok (.goto 4, 3) := by decide +kernel
theorem dX10_different_82 : decode cX10_different 82 = .ok (.iconst 0, 1) := by decide +kernel
theorem dX10_different_83 : decode cX10_different 83 = .ok (.iadd, 1) := by decide +kernel
theorem dX10_different_84 : decode cX10_different 84 = .ok (.istore_n 3, 1) := by decide +kernel
theorem dX10_different_85 : decode cX10_different 85 = .ok (.iinc 4 1, 3) := by decide +kernel
theorem dX10_different_88 : decode cX10_different 88 = .ok (.goto (-70), 3) := by decide +kernel
theorem dX10_different_91 : decode cX10_different 91 = .ok (.iload_n 3, 1) := by decide +kernel
theorem dX10_different_92 : decode cX10_different 92 = .ok (.ireturn, 1) := by decide +kernel
theorem dX10_depth_0 : decode cX10_depth 0 = .ok (.bipush 17, 2) := by decide +kernel
theorem dX10_depth_2 : decode cX10_depth 2 = .ok (.bipush 31, 2) := by decide +kernel
theorem dX10_depth_4 : decode cX10_depth 4 = .ok (.iload_n 1, 1) := by decide +kernel
theorem dX10_depth_5 : decode cX10_depth 5 = .ok (.imul, 1) := by decide +kernel
theorem dX10_depth_6 : decode cX10_depth 6 = .ok (.iadd, 1) := by decide +kernel
theorem dX10_depth_7 : decode cX10_depth 7 = .ok (.istore_n 2, 1) := by decide +kernel
theorem dX10_depth_8 : decode cX10_depth 8 = .ok (.iconst 0, 1) := by decide +kernel
theorem dX10_depth_9 : decode cX10_depth 9 = .ok (.istore_n 3, 1) := by decide +kernel
theorem dX10_depth_10 : decode cX10_depth 10 = .ok (.iconst 1, 1) := by decide +kernel
theorem dX10_depth_11 : decode cX10_depth 11 = .ok (.istore 4, 2) := by decide +kernel
theorem dX10_depth_13 : decode cX10_depth 13 = .ok (.iload 4, 2) := by decide +kernel
theorem dX10_depth_15 : decode cX10_depth 15 = .ok (.aload_n 0, 1) := by decide +kernel
theorem dX10_depth_16 : decode cX10_depth 16 = .ok (.getfield 7, 3) := by decide +kernel
theorem dX10_depth_19 : decode cX10_depth 19 = .ok (.iload_n 2, 1) := by decide +kernel
theorem dX10_depth_20 : decode cX10_depth 20 = .ok (.iaload, 1) := by decide +kernel
theorem dX10_depth_21 : decode cX10_depth 21 = .ok (.if_icmp .gt 109, 3) := by decide +kernel
theorem dX10_depth_24 : decode cX10_depth 24 = .ok (.aload_n 0, 1) := by decide +kernel
theorem dX10_depth_25 : decode cX10_depth 25 = .ok (.getfield 7, 3) := by decide +kernel
theorem dX10_depth_28 : decode cX10_depth 28 = .ok (.iload_n 2, 1) := by decide +kernel
theorem dX10_depth_29 : decode cX10_depth 29 = .ok (.iload 4, 2) := by decide +kernel
theorem dX10_depth_31 : decode cX10_depth 31 = .ok (.iadd, 1) := by decide +kernel
theorem dX10_depth_32 : decode cX10_depth 32 = .ok (.iaload, 1) := by decide +kernel
theorem dX10_depth_33 : decode cX10_depth 33 = .ok (.istore 5, 2) := by decide +kernel
theorem dX10_depth_35 : decode cX10_depth 35 = .ok (.iload 5, 2) := by decide +kernel
theorem dX10_depth_37 : decode cX10_depth 37 = .ok (.bipush 6, 2) := by decide +kernel
theorem dX10_depth_39 : decode cX10_depth 39 = .ok (.if_icmp .ge 16, 3) := by decide +kernel
theorem dX10_depth_42 : decode cX10_depth 42 = .ok (.aload_n 0, 1) := by decide +kernel
theorem dX10_depth_43 : decode cX10_depth 43 = .ok (.getfield 35, 3) := by decide +kernel
theorem dX10_depth_46 : decode cX10_depth 46 = .ok (.iload_n 3, 1) := by decide +kernel
theorem dX10_depth_47 : decode cX10_depth 47 = .ok (.iconst 1, 1) := by decide +kernel
theorem dX10_depth_48 : decode cX10_depth 48 = .ok (.iastore, 1) := by decide +kernel
theorem dX10_depth_49 : decode cX10_depth 49 = .ok (.iinc 3 1, 3) := by decide +kernel
theorem dX10_depth_52 : decode cX10_depth 52 = .ok (.goto 72, 3) := by decide +kernel
theorem dX10_depth_55 : decode cX10_depth 55 = .ok (.iload 5, 2) := by decide +kernel
theorem dX10_depth_57 : decode cX10_depth 57 = .ok (.bipush 6, 2) := by decide +kernel
theorem dX10_depth_59 : decode cX10_depth 59 = .ok (.if_icmp .ne 18, 3) := by decide +kernel
theorem dX10_depth_62 : decode cX10_depth 62 = .ok (.aload_n 0, 1) := by decide +kernel
theorem dX10_depth_63 : decode cX10_depth 63 = .ok (.getfield 35, 3) := by decide +kernel
theorem dX10_depth_66 : decode cX10_depth 66 = .ok (.iload_n 3, 1) := by decide +kernel
theorem dX10_depth_67 : decode cX10_depth 67 = .ok (.iconst 1, 1) := by decide +kernel
theorem dX10_depth_68 : decode cX10_depth 68 = .ok (.isub, 1) := by decide +kernel
theorem dX10_depth_69 : decode cX10_depth 69 = .ok (.dup2, 1) := by decide +kernel
theorem dX10_depth_70 : decode cX10_depth 70 = .ok (.iaload, 1) := by decide +kernel
theorem dX10_depth_71 : decode cX10_depth 71 = .ok (.iconst 1, 1) := by decide +kernel
theorem dX10_depth_72 : decode cX10_depth 72 = .ok (.iadd, 1) := by decide +kernel
theorem dX10_depth_73 : decode cX10_depth 73 = .ok (.iastore, 1) := by decide +kernel
theorem dX10_depth_74 : decode cX10_depth 74 = .ok (.goto 50, 3) := by decide +kernel
theorem dX10_depth_77 : decode cX10_depth 77 = .ok (.iinc 3 (-1), 3) := by decide +kernel
theorem dX10_depth_80 : decode cX10_depth 80 = .ok (.aload_n 0, 1) := by decide +kernel
theorem dX10_depth_81 : decode cX10_depth 81 = .ok (.getfield 35, 3) := by decide +kernel
theorem dX10_depth_84 : decode cX10_depth 84 = .ok (.iload_n 3, 1) := by decide +kernel
theorem dX10_depth_85 : decode cX10_depth 85 = .ok (.iconst 1, 1) := by decide +kernel
theorem dX10_depth_86 : decode cX10_depth 86 = .ok (.isub, 1) := by decide +kernel
theorem dX10_depth_87 : decode cX10_depth 87 = .ok (.iconst 1, 1) := by decide +kernel
theorem dX10_depth_88 : decode cX10_depth 88 = .ok (.aload_n 0, 1) := by decide +kernel
theorem dX10_depth_89 : decode cX10_depth 89 = .ok (.getfield 35, 3) := by decide +kernel
theorem dX10_depth_92 : decode cX10_depth 92 = .ok (.iload_n 3, 1) := by decide +kernel
theorem dX10_depth_93 : decode cX10_depth 93 = .ok (.iaload, 1) := by decide +kernel
theorem dX10_depth_94 : decode cX10_depth 94 = .ok (.aload_n 0, 1) := by decide +kernel
theorem dX10_depth_95 : decode cX10_depth 95 = .ok (.getfield 35, 3) := by decide +kernel
theorem dX10_depth_98 : decode cX10_depth 98 = .ok (.iload_n 3, 1) := by decide +kernel
theorem dX10_depth_99 : decode cX10_depth 99 = .ok (.iconst 1, 1) := by decide +kernel
theorem dX10_depth_100 : decode cX10_depth 100 = .ok (.isub, 1) := by decide +kernel
theorem dX10_depth_101 : decode cX10_depth 101 = .ok (.iaload, 1) := by decide +kernel
theorem dX10_depth_102 : decode cX10_depth 102 = .ok (.if_icmp .le 12, 3) := by decide +kernel
theorem dX10_depth_105 : decode cX10_depth 105 = .ok (.aload_n 0, 1) := by decide +kernel
theorem dX10_depth_106 : decode cX10_depth 106 = .ok (.getfield 35, 3) := by decide +kernel
theorem dX10_depth_109 : decode cX10_depth 109 = .ok (.iload_n 3, 1) := by decide +kernel
theorem dX10_depth_110 : decode cX10_depth 110 = .ok (.iaload, 1) := by decide +kernel
theorem dX10_depth_111 : decode cX10_depth 111 = .ok (.goto 11, 3) := by decide +kernel
theorem dX10_depth_114 : decode cX10_depth 114 = .ok (.aload_n 0, 1) := by decide +kernel
theorem dX10_depth_115 : decode cX10_depth 115 = .ok (.getfield 35, 3) := by decide +kernel
theorem dX10_depth_118 : decode cX10_depth 118 = .ok (.iload_n 3, 1) := by decide +kernel
theorem dX10_depth_119 : decode cX10_depth 119 = .ok (.iconst 1, 1) := by decide +kernel
theorem dX10_depth_120 : decode cX10_depth 120 = .ok (.isub, 1) := by decide +kernel
theorem dX10_depth_121 : decode cX10_depth 121 = .ok (.iaload, 1) := by decide +kernel
theorem dX10_depth_122 : decode cX10_depth 122 = .ok (.iadd, 1) := by decide +kernel
theorem dX10_depth_123 : decode cX10_depth 123 = .ok (.iastore, 1) := by decide +kernel
theorem dX10_depth_124 : decode cX10_depth 124 = .ok (.iinc 4 1, 3) := by decide +kernel
theorem dX10_depth_127 : decode cX10_depth 127 = .ok (.goto (-114), 3) := by decide +kernel
theorem dX10_depth_130 : decode cX10_depth 130 = .ok (.aload_n 0, 1) := by decide +kernel
theorem dX10_depth_131 : decode cX10_depth 131 = .ok (.getfield 35, 3) := by decide +kernel
theorem dX10_depth_134 : decode cX10_depth 134 = .ok (.iconst 0, 1) := by decide +kernel
theorem dX10_depth_135 : decode cX10_depth 135 = .ok (.iaload, 1) := by decide +kernel
theorem dX10_depth_136 : decode cX10_depth 136 = .ok (.ireturn, 1) := by decide +kernel
theorem dX10_factsIn_0 : decode cX10_factsIn 0 = .ok (.bipush 17, 2) := by decide +kernel
theorem dX10_factsIn_2 : decode cX10_factsIn 2 = .ok (.bipush 31, 2) := by decide +kernel
theorem dX10_factsIn_4 : decode cX10_factsIn 4 = .ok (.iload_n 1, 1) := by decide +kernel
theorem dX10_factsIn_5 : decode cX10_factsIn 5 = .ok (.imul, 1) := by decide +kernel
theorem dX10_factsIn_6 : decode cX10_factsIn 6 = .ok (.iadd, 1) := by decide +kernel
theorem dX10_factsIn_7 : decode cX10_factsIn 7 = .ok (.istore_n 2, 1) := by decide +kernel
theorem dX10_factsIn_8 : decode cX10_factsIn 8 = .ok (.iconst 0, 1) := by decide +kernel
theorem dX10_factsIn_9 : decode cX10_factsIn 9 = .ok (.istore_n 3, 1) := by decide +kernel
theorem dX10_factsIn_10 : decode cX10_factsIn 10 = .ok (.iconst 1, 1) := by decide +kernel
theorem dX10_factsIn_11 : decode cX10_factsIn 11 = .ok (.istore 4, 2) := by decide +kernel
theorem dX10_factsIn_13 : decode cX10_factsIn 13 = .ok (.iload 4, 2) := by decide +kernel
theorem dX10_factsIn_15 : decode cX10_factsIn 15 = .ok (.aload_n 0, 1) := by decide +kernel
theorem dX10_factsIn_16 : decode cX10_factsIn 16 = .ok (.getfield 7, 3) := by decide +kernel
theorem dX10_factsIn_19 : decode cX10_factsIn 19 = .ok (.iload_n 2, 1) := by decide +kernel
theorem dX10_factsIn_20 : decode cX10_factsIn 20 = .ok (.iaload, 1) := by decide +kernel
theorem dX10_factsIn_21 : decode cX10_factsIn 21 = .ok (.if_icmp .gt 40, 3) := by decide +kernel
theorem dX10_factsIn_24 : decode cX10_factsIn 24 = .ok (.iload_n 3, 1) := by decide +kernel
theorem dX10_factsIn_25 : decode cX10_factsIn 25 = .ok (.aload_n 0, 1) := by decide +kernel
theorem dX10_factsIn_26 : decode cX10_factsIn 26 = .ok (.getfield 7, 3) := by decide +kernel
theorem dX10_factsIn_29 : decode cX10_factsIn 29 = .ok (.iload_n 2, 1) := by decide +kernel
theorem dX10_factsIn_30 : decode cX10_factsIn 30 = .ok (.iload 4, 2) := by decide +kernel
theorem dX10_factsIn_32 : decode cX10_factsIn 32 = .ok (.iadd, 1) := by decide +kernel
theorem dX10_factsIn_33 : decode cX10_factsIn 33 = .ok (.iaload, 1) := by decide +kernel
theorem dX10_factsIn_34 : decode cX10_factsIn 34 = .ok (.iconst 4, 1) := by decide +kernel
theorem dX10_factsIn_35 : decode cX10_factsIn 35 = .ok (.if_icmp .ge 17, 3) := by decide +kernel
theorem dX10_factsIn_38 : decode cX10_factsIn 38 = .ok (.iconst 1, 1) := by decide +kernel
theorem dX10_factsIn_39 : decode cX10_factsIn 39 = .ok (.aload_n 0, 1) := by decide +kernel
theorem dX10_factsIn_40 : decode cX10_factsIn 40 = .ok (.getfield 7, 3) := by decide +kernel
theorem dX10_factsIn_43 : decode cX10_factsIn 43 = .ok (.iload_n 2, 1) := by decide +kernel
theorem dX10_factsIn_44 : decode cX10_factsIn 44 = .ok (.iload 4, 2) := by decide +kernel
theorem dX10_factsIn_46 : decode cX10_factsIn 46 = .ok (.iadd, 1) := by decide +kernel
theorem dX10_factsIn_47 : decode cX10_factsIn 47 = .ok (.iaload, 1) := by decide +kernel
theorem dX10_factsIn_48 : decode cX10_factsIn 48 = .ok (.ishl, 1) := by decide +kernel
theorem dX10_factsIn_49 : decode cX10_factsIn 49 = .ok (.goto 4, 3) := by decide +kernel
theorem dX10_factsIn_52 : decode cX10_factsIn 52 = .ok (.iconst 0, 1) := by decide +kernel
theorem dX10_factsIn_53 : decode cX10_factsIn 53 = .ok (.ior, 1) := by decide +kernel
theorem dX10_factsIn_54 : decode cX10_factsIn 54 = .ok (.istore_n 3, 1) := by decide +kernel
theorem dX10_factsIn_55 : decode cX10_factsIn 55 = .ok (.iinc 4 1, 3) := by decide +kernel
theorem dX10_factsIn_58 : decode cX10_factsIn 58 = .ok (.goto (-45), 3) := by decide +kernel
theorem dX10_factsIn_61 : decode cX10_factsIn 61 = .ok (.iload_n 3, 1) := by decide +kernel
theorem dX10_factsIn_62 : decode cX10_factsIn 62 = .ok (.ireturn, 1) := by decide +kernel
set_option maxRecDepth 20000 in
theorem ggX10_claim_X10_noClaim : GoodIn wsX10_claim wsX10_noClaim := goodIn_r _ [6, 1, 7, 8, 5, 9, 10, 11, 12, 185, 186, 187, 188, 189, 190, 191, 192, 193, 194, 195, 196, 197, 198, 199, 200, 201, 202, 203, 204, 205, 206, 207, 208, 209] (by decide +kernel) (by decide +kernel)
set_option maxRecDepth 20000 in
theorem gX10_claim_X10_noClaim : GoodIn wsX10_claim (wsV RX10 163 RX10 yX10_noClaim wsX10_noClaim) := goodIn_app (goodIn_of _ (by decide +kernel)) ggX10_claim_X10_noClaim
set_option maxRecDepth 20000 in
theorem ggX10_claim_X10_holding : GoodIn wsX10_claim wsX10_holding := goodIn_r _ [16, 1, 17, 18, 19, 20, 5, 21, 22, 23, 24, 25, 185, 186, 187, 188, 189, 190, 191, 192, 193, 194, 195, 196, 197, 198, 199, 200, 201, 202, 203, 204, 205, 206, 207, 208, 209] (by decide +kernel) (by decide +kernel)
set_option maxRecDepth 20000 in
theorem gX10_claim_X10_holding : GoodIn wsX10_claim (wsV RX10 160 RX10 yX10_holding wsX10_holding) := goodIn_app (goodIn_of _ (by decide +kernel)) ggX10_claim_X10_holding
set_option maxRecDepth 20000 in
theorem ggX10_claim_X10_lowest : GoodIn wsX10_claim wsX10_lowest := goodIn_r _ [28] (by decide +kernel) (by decide +kernel)
set_option maxRecDepth 20000 in
theorem gX10_claim_X10_lowest : GoodIn wsX10_claim (va_wsS RX10 116 yX10_lowest wsX10_lowest) := goodIn_app (goodIn_of _ (by decide +kernel)) ggX10_claim_X10_lowest
set_option maxRecDepth 20000 in
theorem ggX10_claim_X10_different : GoodIn wsX10_claim wsX10_different := goodIn_r _ [32, 1, 33, 34, 35, 5, 36, 37, 38, 39, 40, 41, 185, 186, 187, 188, 189, 190, 191, 192, 193, 194, 195, 196, 197, 198, 199, 200, 201, 202, 203, 204, 205, 206, 207, 208, 209] (by decide +kernel) (by decide +kernel)
set_option maxRecDepth 20000 in
theorem gX10_claim_X10_different : GoodIn wsX10_claim (wsV RX10 283 RX10 yX10_different wsX10_different) := goodIn_app (goodIn_of _ (by decide +kernel)) ggX10_claim_X10_different
set_option maxRecDepth 20000 in
theorem ggX10_claim_X10_factsIn : GoodIn wsX10_claim wsX10_factsIn := goodIn_r _ [45, 1, 185, 186, 187, 188, 189, 190, 191, 192, 193, 194, 195, 196, 197, 198, 199, 200, 201, 202, 203, 204, 205, 206, 207, 208, 209] (by decide +kernel) (by decide +kernel)
set_option maxRecDepth 20000 in
theorem gX10_claim_X10_factsIn : GoodIn wsX10_claim (wsV RX10 286 RX10 yX10_factsIn wsX10_factsIn) := goodIn_app (goodIn_of _ (by decide +kernel)) ggX10_claim_X10_factsIn
set_option maxRecDepth 20000 in
theorem ggX10_claim_X10_isFollowing_h : GoodIn wsX10_claim [Cond.code yX10_isFollowing cX10_isFollowing 3 (some .boolean)] := goodIn_r _ [49] (by decide +kernel) (by decide +kernel)
set_option maxRecDepth 20000 in
theorem ggX10_claim_X10_isFollowing_0 : GoodIn wsX10_claim wsX10_isFollowing_r1 := goodIn_r _ [50, 51, 52, 5, 53, 54, 55, 56, 57, 58, 59, 60, 61, 62, 63, 64, 65, 66, 67, 68, 69, 70, 71, 72] (by decide +kernel) (by decide +kernel)
set_option maxRecDepth 20000 in
theorem ggX10_claim_X10_isFollowing_1 : GoodIn wsX10_claim wsX10_isFollowing_r2 := goodIn_r _ [73, 74, 75, 76, 77, 78, 79, 80, 81, 82, 83, 84, 85, 86, 87, 88, 89, 90, 91, 92, 93, 94, 95, 96] (by decide +kernel) (by decide +kernel)
set_option maxRecDepth 20000 in
theorem ggX10_claim_X10_isFollowing_2 : GoodIn wsX10_claim wsX10_isFollowing_r3 := goodIn_r _ [97, 98, 1, 17, 99, 100, 101, 102, 103, 104, 105, 106, 107, 108, 109, 110, 111, 112, 113, 114, 115, 116, 117, 118] (by decide +kernel) (by decide +kernel)
set_option maxRecDepth 20000 in
theorem ggX10_claim_X10_isFollowing_3 : GoodIn wsX10_claim wsX10_isFollowing_r4 := goodIn_r _ [119, 120, 121, 122, 123, 124, 125, 126, 127, 128, 129, 130, 131, 132, 133, 134, 135, 136, 137, 138, 139, 140, 141, 142] (by decide +kernel) (by decide +kernel)
set_option maxRecDepth 20000 in
theorem ggX10_claim_X10_isFollowing_4 : GoodIn wsX10_claim wsX10_isFollowing_r5 := goodIn_r _ [143, 144, 145, 146, 147, 148, 149, 150, 151, 152, 153, 154, 155, 156, 157, 158, 159, 160, 161, 162, 163, 164] (by decide +kernel) (by decide +kernel)
set_option maxRecDepth 20000 in
theorem ggX10_claim_X10_isFollowing_5 : GoodIn wsX10_claim wsX100 := goodIn_r _ [185, 186, 187, 188, 189, 190, 191, 192, 193, 194, 195, 196, 197, 198, 199, 200, 201, 202, 203, 204, 205, 206, 207, 208, 209] (by decide +kernel) (by decide +kernel)
theorem ggX10_claim_X10_isFollowing : GoodIn wsX10_claim wsX10_isFollowing := goodIn_app ggX10_claim_X10_isFollowing_h (goodIn_app (goodIn_app ggX10_claim_X10_isFollowing_0 (goodIn_app ggX10_claim_X10_isFollowing_1 (goodIn_app ggX10_claim_X10_isFollowing_2 (goodIn_app ggX10_claim_X10_isFollowing_3 ggX10_claim_X10_isFollowing_4)))) ggX10_claim_X10_isFollowing_5)
set_option maxRecDepth 20000 in
theorem gX10_claim_X10_isFollowing : GoodIn wsX10_claim (wsV RX10 267 RX10 yX10_isFollowing wsX10_isFollowing) := goodIn_app (goodIn_of _ (by decide +kernel)) ggX10_claim_X10_isFollowing
set_option maxRecDepth 20000 in
theorem ggX10_claim_X10_followsPlainly_h : GoodIn wsX10_claim [Cond.code yX10_followsPlainly cX10_followsPlainly 3 (some .int)] := goodIn_r _ [168] (by decide +kernel) (by decide +kernel)
set_option maxRecDepth 20000 in
theorem ggX10_claim_X10_followsPlainly_0 : GoodIn wsX10_claim wsX10_followsPlainly_r1 := goodIn_r _ [169, 170, 171, 5, 172, 10, 11, 12, 173, 174, 175, 176, 2, 3, 4, 6, 1, 7, 8, 9, 50, 51, 52, 53] (by decide +kernel) (by decide +kernel)
set_option maxRecDepth 20000 in
theorem ggX10_claim_X10_followsPlainly_1 : GoodIn wsX10_claim wsX10_followsPlainly_r2 := goodIn_r _ [54, 55, 56, 57, 58, 59, 60, 61, 62, 63, 64, 65, 66, 67, 68, 69, 70, 71, 72, 73, 74, 75, 76, 77] (by decide +kernel) (by decide +kernel)
set_option maxRecDepth 20000 in
theorem ggX10_claim_X10_followsPlainly_2 : GoodIn wsX10_claim wsX10_followsPlainly_r3 := goodIn_r _ [78, 79, 80, 81, 82, 83, 84, 85, 86, 87, 88, 89, 90, 91, 92, 93, 94, 95, 96, 97, 98, 17, 99, 100] (by decide +kernel) (by decide +kernel)
set_option maxRecDepth 20000 in
theorem ggX10_claim_X10_followsPlainly_3 : GoodIn wsX10_claim wsX10_followsPlainly_r4 := goodIn_r _ [101, 102, 103, 104, 105, 106, 107, 108, 109, 110, 111, 112, 113, 114, 177, 178, 179, 180, 158, 159, 160, 137, 138, 139] (by decide +kernel) (by decide +kernel)
set_option maxRecDepth 20000 in
theorem ggX10_claim_X10_followsPlainly_4 : GoodIn wsX10_claim wsX10_followsPlainly_r5 := goodIn_r _ [140] (by decide +kernel) (by decide +kernel)
set_option maxRecDepth 20000 in
theorem ggX10_claim_X10_followsPlainly_5 : GoodIn wsX10_claim wsX100 := goodIn_r _ [185, 186, 187, 188, 189, 190, 191, 192, 193, 194, 195, 196, 197, 198, 199, 200, 201, 202, 203, 204, 205, 206, 207, 208, 209] (by decide +kernel) (by decide +kernel)
theorem ggX10_claim_X10_followsPlainly : GoodIn wsX10_claim wsX10_followsPlainly := goodIn_app ggX10_claim_X10_followsPlainly_h (goodIn_app (goodIn_app ggX10_claim_X10_followsPlainly_0 (goodIn_app ggX10_claim_X10_followsPlainly_1 (goodIn_app ggX10_claim_X10_followsPlainly_2 (goodIn_app ggX10_claim_X10_followsPlainly_3 ggX10_claim_X10_followsPlainly_4)))) ggX10_claim_X10_followsPlainly_5)
set_option maxRecDepth 20000 in
theorem gX10_claim_X10_followsPlainly : GoodIn wsX10_claim (wsV RX10 289 RX10 yX10_followsPlainly wsX10_followsPlainly) := goodIn_app (goodIn_of _ (by decide +kernel)) ggX10_claim_X10_followsPlainly
set_option maxRecDepth 20000 in
theorem ggX10_claim_X10_depth : GoodIn wsX10_claim wsX10_depth := goodIn_r _ [184, 1, 17, 185, 186, 187, 188, 189, 190, 191, 192, 193, 194, 195, 196, 197, 198, 199, 200, 201, 202, 203, 204, 205, 206, 207, 208, 209] (by decide +kernel) (by decide +kernel)
set_option maxRecDepth 20000 in
theorem gX10_claim_X10_depth : GoodIn wsX10_claim (wsV RX10 292 RX10 yX10_depth wsX10_depth) := goodIn_app (goodIn_of _ (by decide +kernel)) ggX10_claim_X10_depth
theorem dX10_claim_0 : decode cX10_claim 0 = .ok (.aload_n 0, 1) := by decide +kernel
theorem dX10_claim_1 : decode cX10_claim 1 = .ok (.iload_n 1, 1) := by decide +kernel
theorem dX10_claim_2 : decode cX10_claim 2 = .ok (.invokevirtual 163, 3) := by decide +kernel
theorem dX10_claim_5 : decode cX10_claim 5 = .ok (.ifCond .eq 5, 3) := by decide +kernel
theorem dX10_claim_8 : decode cX10_claim 8 = .ok (.iconst (-1), 1) := by decide +kernel
theorem dX10_claim_9 : decode cX10_claim 9 = .ok (.ireturn, 1) := by decide +kernel
theorem dX10_claim_10 : decode cX10_claim 10 = .ok (.iconst 1, 1) := by decide +kernel
theorem dX10_claim_11 : decode cX10_claim 11 = .ok (.aload_n 0, 1) := by decide +kernel
theorem dX10_claim_12 : decode cX10_claim 12 = .ok (.getfield 7, 3) := by decide +kernel
theorem dX10_claim_15 : decode cX10_claim 15 = .ok (.bipush 16, 2) := by decide +kernel
theorem dX10_claim_17 : decode cX10_claim 17 = .ok (.iaload, 1) := by decide +kernel
theorem dX10_claim_18 : decode cX10_claim 18 = .ok (.ishl, 1) := by decide +kernel
theorem dX10_claim_19 : decode cX10_claim 19 = .ok (.iconst 1, 1) := by decide +kernel
theorem dX10_claim_20 : decode cX10_claim 20 = .ok (.isub, 1) := by decide +kernel
theorem dX10_claim_21 : decode cX10_claim 21 = .ok (.istore_n 3, 1) := by decide +kernel
theorem dX10_claim_22 : decode cX10_claim 22 = .ok (.iload_n 2, 1) := by decide +kernel
theorem dX10_claim_23 : decode cX10_claim 23 = .ok (.tableswitch 131 0 7 #[45, 51, 78, 91, 97, 103, 118, 125], 45) := by decide +kernel
theorem dX10_claim_68 : decode cX10_claim 68 = .ok (.aload_n 0, 1) := by decide +kernel
theorem dX10_claim_69 : decode cX10_claim 69 = .ok (.iload_n 1, 1) := by decide +kernel
theorem dX10_claim_70 : decode cX10_claim 70 = .ok (.invokevirtual 160, 3) := by decide +kernel
theorem dX10_claim_73 : decode cX10_claim 73 = .ok (.ireturn, 1) := by decide +kernel
theorem dX10_claim_74 : decode cX10_claim 74 = .ok (.aload_n 0, 1) := by decide +kernel
theorem dX10_claim_75 : decode cX10_claim 75 = .ok (.iload_n 1, 1) := by decide +kernel
theorem dX10_claim_76 : decode cX10_claim 76 = .ok (.invokevirtual 160, 3) := by decide +kernel
theorem dX10_claim_79 : decode cX10_claim 79 = .ok (.iload_n 3, 1) := by decide +kernel
theorem dX10_claim_80 : decode cX10_claim 80 = .ok (.if_icmp .ne 8, 3) := by decide +kernel
theorem dX10_claim_83 : decode cX10_claim 83 = .ok (.bipush (-5), 2) := by decide +kernel
theorem dX10_claim_85 : decode cX10_claim 85 = .ok (.goto 15, 3) := by decide +kernel
theorem dX10_claim_88 : decode cX10_claim 88 = .ok (.iload_n 3, 1) := by decide +kernel
theorem dX10_claim_89 : decode cX10_claim 89 = .ok (.aload_n 0, 1) := by decide +kernel
theorem dX10_claim_90 : decode cX10_claim 90 = .ok (.iload_n 1, 1) := by decide +kernel
theorem dX10_claim_91 : decode cX10_claim 91 = .ok (.invokevirtual 160, 3) := by decide +kernel
theorem dX10_claim_94 : decode cX10_claim 94 = .ok (.iconst (-1), 1) := by decide +kernel
theorem dX10_claim_95 : decode cX10_claim 95 = .ok (.ixor, 1) := by decide +kernel
theorem dX10_claim_96 : decode cX10_claim 96 = .ok (.iand, 1) := by decide +kernel
theorem dX10_claim_97 : decode cX10_claim 97 = .ok (.invokestatic 116, 3) := by decide +kernel
theorem dX10_claim_100 : decode cX10_claim 100 = .ok (.ireturn, 1) := by decide +kernel
theorem dX10_claim_101 : decode cX10_claim 101 = .ok (.aload_n 0, 1) := by decide +kernel
theorem dX10_claim_102 : decode cX10_claim 102 = .ok (.getfield 7, 3) := by decide +kernel
theorem dX10_claim_105 : decode cX10_claim 105 = .ok (.bipush 17, 2) := by decide +kernel
theorem dX10_claim_107 : decode cX10_claim 107 = .ok (.bipush 31, 2) := by decide +kernel
theorem dX10_claim_109 : decode cX10_claim 109 = .ok (.iload_n 1, 1) := by decide +kernel
theorem dX10_claim_110 : decode cX10_claim 110 = .ok (.imul, 1) := by decide +kernel
theorem dX10_claim_111 : decode cX10_claim 111 = .ok (.iadd, 1) := by decide +kernel
theorem dX10_claim_112 : decode cX10_claim 112 = .ok (.iaload, 1) := by decide +kernel
theorem dX10_claim_113 : decode cX10_claim 113 = .ok (.ireturn, 1) := by decide +kernel
theorem dX10_claim_114 : decode cX10_claim 114 = .ok (.aload_n 0, 1) := by decide +kernel
theorem dX10_claim_115 : decode cX10_claim 115 = .ok (.iload_n 1, 1) := by decide +kernel
theorem dX10_claim_116 : decode cX10_claim 116 = .ok (.invokevirtual 283, 3) := by decide +kernel
theorem dX10_claim_119 : decode cX10_claim 119 = .ok (.ireturn, 1) := by decide +kernel
theorem dX10_claim_120 : decode cX10_claim 120 = .ok (.aload_n 0, 1) := by decide +kernel
theorem dX10_claim_121 : decode cX10_claim 121 = .ok (.iload_n 1, 1) := by decide +kernel
theorem dX10_claim_122 : decode cX10_claim 122 = .ok (.invokevirtual 286, 3) := by decide +kernel
theorem dX10_claim_125 : decode cX10_claim 125 = .ok (.ireturn, 1) := by decide +kernel
theorem dX10_claim_126 : decode cX10_claim 126 = .ok (.aload_n 0, 1) := by decide +kernel
theorem dX10_claim_127 : decode cX10_claim 127 = .ok (.iconst 0, 1) := by decide +kernel
theorem dX10_claim_128 : decode cX10_claim 128 = .ok (.iload_n 1, 1) := by decide +kernel
theorem dX10_claim_129 : decode cX10_claim 129 = .ok (.invokevirtual 267, 3) := by decide +kernel
theorem dX10_claim_132 : decode cX10_claim 132 = .ok (.ifCond .eq 7, 3) := by decide +kernel
theorem dX10_claim_135 : decode cX10_claim 135 = .ok (.iconst 1, 1) := by decide +kernel
theorem dX10_claim_136 : decode cX10_claim 136 = .ok (.goto 4, 3) := by decide +kernel
theorem dX10_claim_139 : decode cX10_claim 139 = .ok (.iconst 0, 1) := by decide +kernel
theorem dX10_claim_140 : decode cX10_claim 140 = .ok (.ireturn, 1) := by decide +kernel
theorem dX10_claim_141 : decode cX10_claim 141 = .ok (.aload_n 0, 1) := by decide +kernel
theorem dX10_claim_142 : decode cX10_claim 142 = .ok (.iconst 0, 1) := by decide +kernel
theorem dX10_claim_143 : decode cX10_claim 143 = .ok (.iload_n 1, 1) := by decide +kernel
theorem dX10_claim_144 : decode cX10_claim 144 = .ok (.invokevirtual 289, 3) := by decide +kernel
theorem dX10_claim_147 : decode cX10_claim 147 = .ok (.ireturn, 1) := by decide +kernel
theorem dX10_claim_148 : decode cX10_claim 148 = .ok (.aload_n 0, 1) := by decide +kernel
theorem dX10_claim_149 : decode cX10_claim 149 = .ok (.iload_n 1, 1) := by decide +kernel
theorem dX10_claim_150 : decode cX10_claim 150 = .ok (.invokevirtual 292, 3) := by decide +kernel
theorem dX10_claim_153 : decode cX10_claim 153 = .ok (.ireturn, 1) := by decide +kernel
theorem dX10_claim_154 : decode cX10_claim 154 = .ok (.bipush (-2), 2) := by decide +kernel
theorem dX10_claim_156 : decode cX10_claim 156 = .ok (.ireturn, 1) := by decide +kernel
set_option maxRecDepth 20000 in
theorem ggX10_holds_X10_noClaim : GoodIn wsX10_holds wsX10_noClaim := goodIn_r _ [5, 6, 7, 8, 4, 9, 10, 11, 12, 30, 31, 32, 33, 34, 35, 36, 37, 38, 39, 40, 41, 42, 43, 44, 45, 46, 47, 48, 49, 50, 51, 52, 53, 54] (by decide +kernel) (by decide +kernel)
set_option maxRecDepth 20000 in
theorem gX10_holds_X10_noClaim : GoodIn wsX10_holds (wsV RX10 163 RX10 yX10_noClaim wsX10_noClaim) := goodIn_app (goodIn_of _ (by decide +kernel)) ggX10_holds_X10_noClaim
set_option maxRecDepth 20000 in
theorem ggX10_holds_X10_noStage : GoodIn wsX10_holds wsX10_noStage := goodIn_r _ [16, 6, 10, 11, 4, 12, 30, 31, 32, 33, 34, 35, 36, 37, 38, 39, 40, 41, 42, 43, 44, 45, 46, 47, 48, 49, 50, 51, 52, 53, 54] (by decide +kernel) (by decide +kernel)
set_option maxRecDepth 20000 in
theorem gX10_holds_X10_noStage : GoodIn wsX10_holds (wsV RX10 86 RX10 yX10_noStage wsX10_noStage) := goodIn_app (goodIn_of _ (by decide +kernel)) ggX10_holds_X10_noStage
set_option maxRecDepth 20000 in
theorem ggX10_holds_X10_holding : GoodIn wsX10_holds wsX10_holding := goodIn_r _ [20, 6, 21, 22, 23, 24, 4, 25, 26, 27, 28, 29, 30, 31, 32, 33, 34, 35, 36, 37, 38, 39, 40, 41, 42, 43, 44, 45, 46, 47, 48, 49, 50, 51, 52, 53, 54] (by decide +kernel) (by decide +kernel)
set_option maxRecDepth 20000 in
theorem gX10_holds_X10_holding : GoodIn wsX10_holds (wsV RX10 160 RX10 yX10_holding wsX10_holding) := goodIn_app (goodIn_of _ (by decide +kernel)) ggX10_holds_X10_holding
theorem dX10_holds_0 : decode cX10_holds 0 = .ok (.aload_n 0, 1) := by decide +kernel
theorem dX10_holds_1 : decode cX10_holds 1 = .ok (.iload_n 1, 1) := by decide +kernel
theorem dX10_holds_2 : decode cX10_holds 2 = .ok (.invokevirtual 163, 3) := by decide +kernel
theorem dX10_holds_5 : decode cX10_holds 5 = .ok (.ifCond .ne 11, 3) := by decide +kernel
theorem dX10_holds_8 : decode cX10_holds 8 = .ok (.aload_n 0, 1) := by decide +kernel
theorem dX10_holds_9 : decode cX10_holds 9 = .ok (.iload_n 2, 1) := by decide +kernel
theorem dX10_holds_10 : decode cX10_holds 10 = .ok (.invokevirtual 86, 3) := by decide +kernel
theorem dX10_holds_13 : decode cX10_holds 13 = .ok (.ifCond .eq 7, 3) := by decide +kernel
theorem dX10_holds_16 : decode cX10_holds 16 = .ok (.iconst (-1), 1) := by decide +kernel
theorem dX10_holds_17 : decode cX10_holds 17 = .ok (.goto 12, 3) := by decide +kernel
theorem dX10_holds_20 : decode cX10_holds 20 = .ok (.aload_n 0, 1) := by decide +kernel
theorem dX10_holds_21 : decode cX10_holds 21 = .ok (.iload_n 1, 1) := by decide +kernel
theorem dX10_holds_22 : decode cX10_holds 22 = .ok (.invokevirtual 160, 3) := by decide +kernel
theorem dX10_holds_25 : decode cX10_holds 25 = .ok (.iload_n 2, 1) := by decide +kernel
theorem dX10_holds_26 : decode cX10_holds 26 = .ok (.ishr, 1) := by decide +kernel
theorem dX10_holds_27 : decode cX10_holds 27 = .ok (.iconst 1, 1) := by decide +kernel
theorem dX10_holds_28 : decode cX10_holds 28 = .ok (.iand, 1) := by decide +kernel
theorem dX10_holds_29 : decode cX10_holds 29 = .ok (.ireturn, 1) := by decide +kernel
set_option maxRecDepth 20000 in
theorem ggX10_unlike_X10_findsLike : GoodIn wsX10_unlike wsX10_findsLike := goodIn_r _ [7, 1, 2, 8, 9, 10, 6, 11, 12, 13, 14, 15, 19, 20, 21, 22, 23, 24, 25, 26, 27, 28, 29, 30, 31, 32, 33, 34, 35, 36, 37, 38, 39, 40, 41, 42, 43] (by decide +kernel) (by decide +kernel)
set_option maxRecDepth 20000 in
theorem gX10_unlike_X10_findsLike : GoodIn wsX10_unlike (wsV RX10 113 RX10 yX10_findsLike wsX10_findsLike) := goodIn_app (goodIn_of _ (by decide +kernel)) ggX10_unlike_X10_findsLike
set_option maxRecDepth 20000 in
theorem ggX10_unlike_X10_lowest : GoodIn wsX10_unlike wsX10_lowest := goodIn_r _ [18] (by decide +kernel) (by decide +kernel)
set_option maxRecDepth 20000 in
theorem gX10_unlike_X10_lowest : GoodIn wsX10_unlike (va_wsS RX10 116 yX10_lowest wsX10_lowest) := goodIn_app (goodIn_of _ (by decide +kernel)) ggX10_unlike_X10_lowest
theorem dX10_unlike_0 : decode cX10_unlike 0 = .ok (.aload_n 0, 1) := by decide +kernel
theorem dX10_unlike_1 : decode cX10_unlike 1 = .ok (.invokevirtual 113, 3) := by decide +kernel
theorem dX10_unlike_4 : decode cX10_unlike 4 = .ok (.iconst 0, 1) := by decide +kernel
theorem dX10_unlike_5 : decode cX10_unlike 5 = .ok (.istore_n 1, 1) := by decide +kernel
theorem dX10_unlike_6 : decode cX10_unlike 6 = .ok (.iconst 0, 1) := by decide +kernel
theorem dX10_unlike_7 : decode cX10_unlike 7 = .ok (.istore_n 2, 1) := by decide +kernel
theorem dX10_unlike_8 : decode cX10_unlike 8 = .ok (.iload_n 2, 1) := by decide +kernel
theorem dX10_unlike_9 : decode cX10_unlike 9 = .ok (.aload_n 0, 1) := by decide +kernel
theorem dX10_unlike_10 : decode cX10_unlike 10 = .ok (.getfield 7, 3) := by decide +kernel
theorem dX10_unlike_13 : decode cX10_unlike 13 = .ok (.bipush 16, 2) := by decide +kernel
theorem dX10_unlike_15 : decode cX10_unlike 15 = .ok (.iaload, 1) := by decide +kernel
theorem dX10_unlike_16 : decode cX10_unlike 16 = .ok (.if_icmp .ge 30, 3) := by decide +kernel
theorem dX10_unlike_19 : decode cX10_unlike 19 = .ok (.iload_n 1, 1) := by decide +kernel
theorem dX10_unlike_20 : decode cX10_unlike 20 = .ok (.aload_n 0, 1) := by decide +kernel
theorem dX10_unlike_21 : decode cX10_unlike 21 = .ok (.getfield 19, 3) := by decide +kernel
theorem dX10_unlike_24 : decode cX10_unlike 24 = .ok (.iload_n 2, 1) := by decide +kernel
theorem dX10_unlike_25 : decode cX10_unlike 25 = .ok (.iaload, 1) := by decide +kernel
theorem dX10_unlike_26 : decode cX10_unlike 26 = .ok (.invokestatic 116, 3) := by decide +kernel
theorem dX10_unlike_29 : decode cX10_unlike 29 = .ok (.iload_n 2, 1) := by decide +kernel
theorem dX10_unlike_30 : decode cX10_unlike 30 = .ok (.if_icmp .ne 7, 3) := by decide +kernel
theorem dX10_unlike_33 : decode cX10_unlike 33 = .ok (.iconst 1, 1) := by decide +kernel
theorem dX10_unlike_34 : decode cX10_unlike 34 = .ok (.goto 4, 3) := by decide +kernel
theorem dX10_unlike_37 : decode cX10_unlike 37 = .ok (.iconst 0, 1) := by decide +kernel
theorem dX10_unlike_38 : decode cX10_unlike 38 = .ok (.iadd, 1) := by decide +kernel
theorem dX10_unlike_39 : decode cX10_unlike 39 = .ok (.istore_n 1, 1) := by decide +kernel
theorem dX10_unlike_40 : decode cX10_unlike 40 = .ok (.iinc 2 1, 3) := by decide +kernel
theorem dX10_unlike_43 : decode cX10_unlike 43 = .ok (.goto (-35), 3) := by decide +kernel
theorem dX10_unlike_46 : decode cX10_unlike 46 = .ok (.iload_n 1, 1) := by decide +kernel
theorem dX10_unlike_47 : decode cX10_unlike 47 = .ok (.ireturn, 1) := by decide +kernel
set_option maxRecDepth 20000 in
theorem ggX10_ends_X10_leadingTo : GoodIn wsX10_ends wsX10_leadingTo := goodIn_r _ [6, 1, 7, 8, 9, 5, 10, 11, 12, 13, 14, 15, 16, 17, 18, 19, 20, 21, 22, 23, 24, 25, 26, 27, 28, 29, 30, 31, 32, 33, 34, 35] (by decide +kernel) (by decide +kernel)
set_option maxRecDepth 20000 in
theorem gX10_ends_X10_leadingTo : GoodIn wsX10_ends (wsV RX10 96 RX10 yX10_leadingTo wsX10_leadingTo) := goodIn_app (goodIn_of _ (by decide +kernel)) ggX10_ends_X10_leadingTo
theorem dX10_ends_0 : decode cX10_ends 0 = .ok (.iconst 0, 1) := by decide +kernel
theorem dX10_ends_1 : decode cX10_ends 1 = .ok (.istore_n 2, 1) := by decide +kernel
theorem dX10_ends_2 : decode cX10_ends 2 = .ok (.iconst 0, 1) := by decide +kernel
theorem dX10_ends_3 : decode cX10_ends 3 = .ok (.istore_n 3, 1) := by decide +kernel
theorem dX10_ends_4 : decode cX10_ends 4 = .ok (.iload_n 3, 1) := by decide +kernel
theorem dX10_ends_5 : decode cX10_ends 5 = .ok (.aload_n 0, 1) := by decide +kernel
theorem dX10_ends_6 : decode cX10_ends 6 = .ok (.getfield 7, 3) := by decide +kernel
theorem dX10_ends_9 : decode cX10_ends 9 = .ok (.bipush 16, 2) := by decide +kernel
theorem dX10_ends_11 : decode cX10_ends 11 = .ok (.iaload, 1) := by decide +kernel
theorem dX10_ends_12 : decode cX10_ends 12 = .ok (.if_icmp .ge 45, 3) := by decide +kernel
theorem dX10_ends_15 : decode cX10_ends 15 = .ok (.iload_n 2, 1) := by decide +kernel
theorem dX10_ends_16 : decode cX10_ends 16 = .ok (.iload_n 1, 1) := by decide +kernel
theorem dX10_ends_17 : decode cX10_ends 17 = .ok (.ifCond .eq 14, 3) := by decide +kernel
theorem dX10_ends_20 : decode cX10_ends 20 = .ok (.aload_n 0, 1) := by decide +kernel
theorem dX10_ends_21 : decode cX10_ends 21 = .ok (.getfield 7, 3) := by decide +kernel
theorem dX10_ends_24 : decode cX10_ends 24 = .ok (.iconst 0, 1) := by decide +kernel
theorem dX10_ends_25 : decode cX10_ends 25 = .ok (.iload_n 3, 1) := by decide +kernel
theorem dX10_ends_26 : decode cX10_ends 26 = .ok (.iadd, 1) := by decide +kernel
theorem dX10_ends_27 : decode cX10_ends 27 = .ok (.iaload, 1) := by decide +kernel
theorem dX10_ends_28 : decode cX10_ends 28 = .ok (.goto 8, 3) := by decide +kernel
theorem dX10_ends_31 : decode cX10_ends 31 = .ok (.aload_n 0, 1) := by decide +kernel
theorem dX10_ends_32 : decode cX10_ends 32 = .ok (.iload_n 3, 1) := by decide +kernel
theorem dX10_ends_33 : decode cX10_ends 33 = .ok (.invokevirtual 96, 3) := by decide +kernel
theorem dX10_ends_36 : decode cX10_ends 36 = .ok (.iconst 1, 1) := by decide +kernel
theorem dX10_ends_37 : decode cX10_ends 37 = .ok (.iload_n 3, 1) := by decide +kernel
theorem dX10_ends_38 : decode cX10_ends 38 = .ok (.ishl, 1) := by decide +kernel
theorem dX10_ends_39 : decode cX10_ends 39 = .ok (.if_icmp .ne 9, 3) := by decide +kernel
theorem dX10_ends_42 : decode cX10_ends 42 = .ok (.iconst 1, 1) := by decide +kernel
theorem dX10_ends_43 : decode cX10_ends 43 = .ok (.iload_n 3, 1) := by decide +kernel
theorem dX10_ends_44 : decode cX10_ends 44 = .ok (.ishl, 1) := by decide +kernel
theorem dX10_ends_45 : decode cX10_ends 45 = .ok (.goto 4, 3) := by decide +kernel
theorem dX10_ends_48 : decode cX10_ends 48 = .ok (.iconst 0, 1) := by decide +kernel
theorem dX10_ends_49 : decode cX10_ends 49 = .ok (.ior, 1) := by decide +kernel
theorem dX10_ends_50 : decode cX10_ends 50 = .ok (.istore_n 2, 1) := by decide +kernel
theorem dX10_ends_51 : decode cX10_ends 51 = .ok (.iinc 3 1, 3) := by decide +kernel
theorem dX10_ends_54 : decode cX10_ends 54 = .ok (.goto (-50), 3) := by decide +kernel
theorem dX10_ends_57 : decode cX10_ends 57 = .ok (.iload_n 2, 1) := by decide +kernel
theorem dX10_ends_58 : decode cX10_ends 58 = .ok (.ireturn, 1) := by decide +kernel
theorem dX10_everywhere_0 : decode cX10_everywhere 0 = .ok (.bipush 15, 2) := by decide +kernel
theorem dX10_everywhere_2 : decode cX10_everywhere 2 = .ok (.istore_n 1, 1) := by decide +kernel
theorem dX10_everywhere_3 : decode cX10_everywhere 3 = .ok (.iconst 0, 1) := by decide +kernel
theorem dX10_everywhere_4 : decode cX10_everywhere 4 = .ok (.istore_n 2, 1) := by decide +kernel
theorem dX10_everywhere_5 : decode cX10_everywhere 5 = .ok (.iload_n 2, 1) := by decide +kernel
theorem dX10_everywhere_6 : decode cX10_everywhere 6 = .ok (.aload_n 0, 1) := by decide +kernel
theorem dX10_everywhere_7 : decode cX10_everywhere 7 = .ok (.getfield 7, 3) := by decide +kernel
theorem dX10_everywhere_10 : decode cX10_everywhere 10 = .ok (.bipush 16, 2) := by decide +kernel
theorem dX10_everywhere_12 : decode cX10_everywhere 12 = .ok (.iaload, 1) := by decide +kernel
theorem dX10_everywhere_13 : decode cX10_everywhere 13 = .ok (.if_icmp .ge 21, 3) := by decide +kernel
theorem dX10_everywhere_16 : decode cX10_everywhere 16 = .ok (.iload_n 1, 1) := by decide +kernel
theorem dX10_everywhere_17 : decode cX10_everywhere 17 = .ok (.aload_n 0, 1) := by decide +kernel
theorem dX10_everywhere_18 : decode cX10_everywhere 18 = .ok (.getfield 7, 3) := by decide +kernel
theorem dX10_everywhere_21 : decode cX10_everywhere 21 = .ok (.bipush 8, 2) := by decide +kernel
theorem dX10_everywhere_23 : decode cX10_everywhere 23 = .ok (.iload_n 2, 1) := by decide +kernel
theorem dX10_everywhere_24 : decode cX10_everywhere 24 = .ok (.iadd, 1) := by decide +kernel
theorem dX10_everywhere_25 : decode cX10_everywhere 25 = .ok (.iaload, 1) := by decide +kernel
theorem dX10_everywhere_26 : decode cX10_everywhere 26 = .ok (.iand, 1) := by decide +kernel
theorem dX10_everywhere_27 : decode cX10_everywhere 27 = .ok (.istore_n 1, 1) := by decide +kernel
theorem dX10_everywhere_28 : decode cX10_everywhere 28 = .ok (.iinc 2 1, 3) := by decide +kernel
theorem dX10_everywhere_31 : decode cX10_everywhere 31 = .ok (.goto (-26), 3) := by decide +kernel
theorem dX10_everywhere_34 : decode cX10_everywhere 34 = .ok (.iload_n 1, 1) := by decide +kernel
theorem dX10_everywhere_35 : decode cX10_everywhere 35 = .ok (.ireturn, 1) := by decide +kernel
set_option maxRecDepth 20000 in
theorem ggX10_count_X10_pairs : GoodIn wsX10_count wsX10_pairs := goodIn_r _ [8, 1, 9, 10, 7, 11, 58, 59, 60, 61, 62, 63, 64, 65, 66, 67, 68, 69, 70, 71, 72, 73, 74, 75, 76, 77, 78, 79, 80, 81, 82] (by decide +kernel) (by decide +kernel)
set_option maxRecDepth 20000 in
theorem gX10_count_X10_pairs : GoodIn wsX10_count (wsV RX10 92 RX10 yX10_pairs wsX10_pairs) := goodIn_app (goodIn_of _ (by decide +kernel)) ggX10_count_X10_pairs
set_option maxRecDepth 20000 in
theorem ggX10_count_X10_places : GoodIn wsX10_count wsX10_places := goodIn_r _ [15, 16, 17, 18, 7, 19, 1, 20, 21, 22, 23, 24, 25, 58, 59, 60, 61, 62, 63, 64, 65, 66, 67, 68, 69, 70, 71, 72, 73, 74, 75, 76, 77, 78, 79, 80, 81, 82] (by decide +kernel) (by decide +kernel)
set_option maxRecDepth 20000 in
theorem gX10_count_X10_places : GoodIn wsX10_count (wsV RX10 166 RX10 yX10_places wsX10_places) := goodIn_app (goodIn_of _ (by decide +kernel)) ggX10_count_X10_places
set_option maxRecDepth 20000 in
theorem ggX10_count_X10_bits : GoodIn wsX10_count wsX10_bits := goodIn_r _ [11] (by decide +kernel) (by decide +kernel)
set_option maxRecDepth 20000 in
theorem gX10_count_X10_bits : GoodIn wsX10_count (va_wsS RX10 82 yX10_bits wsX10_bits) := goodIn_app (goodIn_of _ (by decide +kernel)) ggX10_count_X10_bits
set_option maxRecDepth 20000 in
theorem ggX10_count_X10_ends : GoodIn wsX10_count wsX10_ends := goodIn_r _ [29, 1, 30, 31, 32, 7, 33, 34, 35, 36, 37, 58, 59, 60, 61, 62, 63, 64, 65, 66, 67, 68, 69, 70, 71, 72, 73, 74, 75, 76, 77, 78, 79, 80, 81, 82] (by decide +kernel) (by decide +kernel)
set_option maxRecDepth 20000 in
theorem gX10_count_X10_ends : GoodIn wsX10_count (wsV RX10 295 RX10 yX10_ends wsX10_ends) := goodIn_app (goodIn_of _ (by decide +kernel)) ggX10_count_X10_ends
set_option maxRecDepth 20000 in
theorem ggX10_count_X10_unlike_h : GoodIn wsX10_count [Cond.code yX10_unlike cX10_unlike 3 (some .int)] := goodIn_r _ [41] (by decide +kernel) (by decide +kernel)
set_option maxRecDepth 20000 in
theorem ggX10_count_X10_unlike_0 : GoodIn wsX10_count ([.fieldLink RX10 7 "StageTruthsModel" "now" "[I", .fieldLink RX10 19 "StageTruthsModel" "like" "[I", .methodLink RX10 113 yX10_findsLike, .instanceMethod yX10_findsLike, .selects RX10 yX10_findsLike yX10_findsLike, .initialized RX10, .code yX10_findsLike cX10_findsLike 5 none, .methodLink RX10 110 yX10_isMet, .instanceMethod yX10_isMet, .selects RX10 yX10_isMet yX10_isMet, .code yX10_isMet cX10_isMet 4 (some .boolean), .methodLink RX10 78 yX10_leadsTo, .instanceMethod yX10_leadsTo, .selects RX10 yX10_leadsTo yX10_leadsTo, .code yX10_leadsTo cX10_leadsTo 3 (some .boolean), .methodLink RX10 116 yX10_lowest, .static yX10_lowest, .code yX10_lowest cX10_lowest 2 (some .int)] : List Cond) := goodIn_r _ [1, 42, 43, 44, 45, 7, 46, 47, 48, 49, 50, 34, 35, 36, 37, 51, 52, 53] (by decide +kernel) (by decide +kernel)
set_option maxRecDepth 20000 in
theorem ggX10_count_X10_unlike_1 : GoodIn wsX10_count wsX100 := goodIn_r _ [58, 59, 60, 61, 62, 63, 64, 65, 66, 67, 68, 69, 70, 71, 72, 73, 74, 75, 76, 77, 78, 79, 80, 81, 82] (by decide +kernel) (by decide +kernel)
theorem ggX10_count_X10_unlike : GoodIn wsX10_count wsX10_unlike := goodIn_app ggX10_count_X10_unlike_h (goodIn_app ggX10_count_X10_unlike_0 ggX10_count_X10_unlike_1)
set_option maxRecDepth 20000 in
theorem gX10_count_X10_unlike : GoodIn wsX10_count (wsV RX10 299 RX10 yX10_unlike wsX10_unlike) := goodIn_app (goodIn_of _ (by decide +kernel)) ggX10_count_X10_unlike
set_option maxRecDepth 20000 in
theorem ggX10_count_X10_everywhere : GoodIn wsX10_count wsX10_everywhere := goodIn_r _ [57, 1, 58, 59, 60, 61, 62, 63, 64, 65, 66, 67, 68, 69, 70, 71, 72, 73, 74, 75, 76, 77, 78, 79, 80, 81, 82] (by decide +kernel) (by decide +kernel)
set_option maxRecDepth 20000 in
theorem gX10_count_X10_everywhere : GoodIn wsX10_count (wsV RX10 302 RX10 yX10_everywhere wsX10_everywhere) := goodIn_app (goodIn_of _ (by decide +kernel)) ggX10_count_X10_everywhere
theorem dX10_count_0 : decode cX10_count 0 = .ok (.iload_n 1, 1) := by decide +kernel
theorem dX10_count_1 : decode cX10_count 1 = .ok (.tableswitch 104 0 8 #[51, 59, 64, 72, 78, 84, 89, 94, 99], 51) := by decide +kernel
theorem dX10_count_52 : decode cX10_count 52 = .ok (.aload_n 0, 1) := by decide +kernel
theorem dX10_count_53 : decode cX10_count 53 = .ok (.getfield 7, 3) := by decide +kernel
theorem dX10_count_56 : decode cX10_count 56 = .ok (.bipush 16, 2) := by decide +kernel
theorem dX10_count_58 : decode cX10_count 58 = .ok (.iaload, 1) := by decide +kernel
theorem dX10_count_59 : decode cX10_count 59 = .ok (.ireturn, 1) := by decide +kernel
theorem dX10_count_60 : decode cX10_count 60 = .ok (.aload_n 0, 1) := by decide +kernel
theorem dX10_count_61 : decode cX10_count 61 = .ok (.invokevirtual 92, 3) := by decide +kernel
theorem dX10_count_64 : decode cX10_count 64 = .ok (.ireturn, 1) := by decide +kernel
theorem dX10_count_65 : decode cX10_count 65 = .ok (.aload_n 0, 1) := by decide +kernel
theorem dX10_count_66 : decode cX10_count 66 = .ok (.invokevirtual 166, 3) := by decide +kernel
theorem dX10_count_69 : decode cX10_count 69 = .ok (.invokestatic 82, 3) := by decide +kernel
theorem dX10_count_72 : decode cX10_count 72 = .ok (.ireturn, 1) := by decide +kernel
theorem dX10_count_73 : decode cX10_count 73 = .ok (.aload_n 0, 1) := by decide +kernel
theorem dX10_count_74 : decode cX10_count 74 = .ok (.iconst 1, 1) := by decide +kernel
theorem dX10_count_75 : decode cX10_count 75 = .ok (.invokevirtual 295, 3) := by decide +kernel
theorem dX10_count_78 : decode cX10_count 78 = .ok (.ireturn, 1) := by decide +kernel
theorem dX10_count_79 : decode cX10_count 79 = .ok (.aload_n 0, 1) := by decide +kernel
theorem dX10_count_80 : decode cX10_count 80 = .ok (.iconst 0, 1) := by decide +kernel
theorem dX10_count_81 : decode cX10_count 81 = .ok (.invokevirtual 295, 3) := by decide +kernel
theorem dX10_count_84 : decode cX10_count 84 = .ok (.ireturn, 1) := by decide +kernel
theorem dX10_count_85 : decode cX10_count 85 = .ok (.aload_n 0, 1) := by decide +kernel
theorem dX10_count_86 : decode cX10_count 86 = .ok (.invokevirtual 299, 3) := by decide +kernel
theorem dX10_count_89 : decode cX10_count 89 = .ok (.ireturn, 1) := by decide +kernel
theorem dX10_count_90 : decode cX10_count 90 = .ok (.aload_n 0, 1) := by decide +kernel
theorem dX10_count_91 : decode cX10_count 91 = .ok (.invokevirtual 302, 3) := by decide +kernel
theorem dX10_count_94 : decode cX10_count 94 = .ok (.ireturn, 1) := by decide +kernel
theorem dX10_count_95 : decode cX10_count 95 = .ok (.aload_n 0, 1) := by decide +kernel
theorem dX10_count_96 : decode cX10_count 96 = .ok (.getfield 74, 3) := by decide +kernel
theorem dX10_count_99 : decode cX10_count 99 = .ok (.ireturn, 1) := by decide +kernel
theorem dX10_count_100 : decode cX10_count 100 = .ok (.aload_n 0, 1) := by decide +kernel
theorem dX10_count_101 : decode cX10_count 101 = .ok (.getfield 119, 3) := by decide +kernel
theorem dX10_count_104 : decode cX10_count 104 = .ok (.ireturn, 1) := by decide +kernel
theorem dX10_count_105 : decode cX10_count 105 = .ok (.bipush (-2), 2) := by decide +kernel
theorem dX10_count_107 : decode cX10_count 107 = .ok (.ireturn, 1) := by decide +kernel
theorem dJ6_bitCount_0f7a4_0 : decode cJ6_bitCount_0f7a4 0 = .ok (.iload_n 0, 1) := by decide +kernel
theorem dJ6_bitCount_0f7a4_1 : decode cJ6_bitCount_0f7a4 1 = .ok (.iload_n 0, 1) := by decide +kernel
theorem dJ6_bitCount_0f7a4_2 : decode cJ6_bitCount_0f7a4 2 = .ok (.iconst 1, 1) := by decide +kernel
theorem dJ6_bitCount_0f7a4_3 : decode cJ6_bitCount_0f7a4 3 = .ok (.iushr, 1) := by decide +kernel
theorem dJ6_bitCount_0f7a4_4 : decode cJ6_bitCount_0f7a4 4 = .ok (.ldc_w 265, 3) := by decide +kernel
theorem dJ6_bitCount_0f7a4_7 : decode cJ6_bitCount_0f7a4 7 = .ok (.iand, 1) := by decide +kernel
theorem dJ6_bitCount_0f7a4_8 : decode cJ6_bitCount_0f7a4 8 = .ok (.isub, 1) := by decide +kernel
theorem dJ6_bitCount_0f7a4_9 : decode cJ6_bitCount_0f7a4 9 = .ok (.istore_n 0, 1) := by decide +kernel
theorem dJ6_bitCount_0f7a4_10 : decode cJ6_bitCount_0f7a4 10 = .ok (.iload_n 0, 1) := by decide +kernel
theorem dJ6_bitCount_0f7a4_11 : decode cJ6_bitCount_0f7a4 11 = .ok (.ldc_w 266, 3) := by decide +kernel
theorem dJ6_bitCount_0f7a4_14 : decode cJ6_bitCount_0f7a4 14 = .ok (.iand, 1) := by decide +kernel
theorem dJ6_bitCount_0f7a4_15 : decode cJ6_bitCount_0f7a4 15 = .ok (.iload_n 0, 1) := by decide +kernel
theorem dJ6_bitCount_0f7a4_16 : decode cJ6_bitCount_0f7a4 16 = .ok (.iconst 2, 1) := by decide +kernel
theorem dJ6_bitCount_0f7a4_17 : decode cJ6_bitCount_0f7a4 17 = .ok (.iushr, 1) := by decide +kernel
theorem dJ6_bitCount_0f7a4_18 : decode cJ6_bitCount_0f7a4 18 = .ok (.ldc_w 266, 3) := by decide +kernel
theorem dJ6_bitCount_0f7a4_21 : decode cJ6_bitCount_0f7a4 21 = .ok (.iand, 1) := by decide +kernel
theorem dJ6_bitCount_0f7a4_22 : decode cJ6_bitCount_0f7a4 22 = .ok (.iadd, 1) := by decide +kernel
theorem dJ6_bitCount_0f7a4_23 : decode cJ6_bitCount_0f7a4 23 = .ok (.istore_n 0, 1) := by decide +kernel
theorem dJ6_bitCount_0f7a4_24 : decode cJ6_bitCount_0f7a4 24 = .ok (.iload_n 0, 1) := by decide +kernel
theorem dJ6_bitCount_0f7a4_25 : decode cJ6_bitCount_0f7a4 25 = .ok (.iload_n 0, 1) := by decide +kernel
theorem dJ6_bitCount_0f7a4_26 : decode cJ6_bitCount_0f7a4 26 = .ok (.iconst 4, 1) := by decide +kernel
theorem dJ6_bitCount_0f7a4_27 : decode cJ6_bitCount_0f7a4 27 = .ok (.iushr, 1) := by decide +kernel
theorem dJ6_bitCount_0f7a4_28 : decode cJ6_bitCount_0f7a4 28 = .ok (.iadd, 1) := by decide +kernel
theorem dJ6_bitCount_0f7a4_29 : decode cJ6_bitCount_0f7a4 29 = .ok (.ldc_w 267, 3) := by decide +kernel
theorem dJ6_bitCount_0f7a4_32 : decode cJ6_bitCount_0f7a4 32 = .ok (.iand, 1) := by decide +kernel
theorem dJ6_bitCount_0f7a4_33 : decode cJ6_bitCount_0f7a4 33 = .ok (.istore_n 0, 1) := by decide +kernel
theorem dJ6_bitCount_0f7a4_34 : decode cJ6_bitCount_0f7a4 34 = .ok (.iload_n 0, 1) := by decide +kernel
theorem dJ6_bitCount_0f7a4_35 : decode cJ6_bitCount_0f7a4 35 = .ok (.iload_n 0, 1) := by decide +kernel
theorem dJ6_bitCount_0f7a4_36 : decode cJ6_bitCount_0f7a4 36 = .ok (.bipush 8, 2) := by decide +kernel
theorem dJ6_bitCount_0f7a4_38 : decode cJ6_bitCount_0f7a4 38 = .ok (.iushr, 1) := by decide +kernel
theorem dJ6_bitCount_0f7a4_39 : decode cJ6_bitCount_0f7a4 39 = .ok (.iadd, 1) := by decide +kernel
theorem dJ6_bitCount_0f7a4_40 : decode cJ6_bitCount_0f7a4 40 = .ok (.istore_n 0, 1) := by decide +kernel
theorem dJ6_bitCount_0f7a4_41 : decode cJ6_bitCount_0f7a4 41 = .ok (.iload_n 0, 1) := by decide +kernel
theorem dJ6_bitCount_0f7a4_42 : decode cJ6_bitCount_0f7a4 42 = .ok (.iload_n 0, 1) := by decide +kernel
theorem dJ6_bitCount_0f7a4_43 : decode cJ6_bitCount_0f7a4 43 = .ok (.bipush 16, 2) := by decide +kernel
theorem dJ6_bitCount_0f7a4_45 : decode cJ6_bitCount_0f7a4 45 = .ok (.iushr, 1) := by decide +kernel
theorem dJ6_bitCount_0f7a4_46 : decode cJ6_bitCount_0f7a4 46 = .ok (.iadd, 1) := by decide +kernel
theorem dJ6_bitCount_0f7a4_47 : decode cJ6_bitCount_0f7a4 47 = .ok (.istore_n 0, 1) := by decide +kernel
theorem dJ6_bitCount_0f7a4_48 : decode cJ6_bitCount_0f7a4 48 = .ok (.iload_n 0, 1) := by decide +kernel
theorem dJ6_bitCount_0f7a4_49 : decode cJ6_bitCount_0f7a4 49 = .ok (.bipush 63, 2) := by decide +kernel
theorem dJ6_bitCount_0f7a4_51 : decode cJ6_bitCount_0f7a4 51 = .ok (.iand, 1) := by decide +kernel
theorem dJ6_bitCount_0f7a4_52 : decode cJ6_bitCount_0f7a4 52 = .ok (.ireturn, 1) := by decide +kernel
theorem dJ9_max_7cf53_0 : decode cJ9_max_7cf53 0 = .ok (.iload_n 0, 1) := by decide +kernel
theorem dJ9_max_7cf53_1 : decode cJ9_max_7cf53 1 = .ok (.iload_n 1, 1) := by decide +kernel
theorem dJ9_max_7cf53_2 : decode cJ9_max_7cf53 2 = .ok (.if_icmp .lt 7, 3) := by decide +kernel
theorem dJ9_max_7cf53_5 : decode cJ9_max_7cf53 5 = .ok (.iload_n 0, 1) := by decide +kernel
theorem dJ9_max_7cf53_6 : decode cJ9_max_7cf53 6 = .ok (.goto 4, 3) := by decide +kernel
theorem dJ9_max_7cf53_9 : decode cJ9_max_7cf53 9 = .ok (.iload_n 1, 1) := by decide +kernel
theorem dJ9_max_7cf53_10 : decode cJ9_max_7cf53 10 = .ok (.ireturn, 1) := by decide +kernel
theorem dJ9_min_7cf53_0 : decode cJ9_min_7cf53 0 = .ok (.iload_n 0, 1) := by decide +kernel
theorem dJ9_min_7cf53_1 : decode cJ9_min_7cf53 1 = .ok (.iload_n 1, 1) := by decide +kernel
theorem dJ9_min_7cf53_2 : decode cJ9_min_7cf53 2 = .ok (.if_icmp .gt 7, 3) := by decide +kernel
theorem dJ9_min_7cf53_5 : decode cJ9_min_7cf53 5 = .ok (.iload_n 0, 1) := by decide +kernel
theorem dJ9_min_7cf53_6 : decode cJ9_min_7cf53 6 = .ok (.goto 4, 3) := by decide +kernel
theorem dJ9_min_7cf53_9 : decode cJ9_min_7cf53 9 = .ok (.iload_n 1, 1) := by decide +kernel
theorem dJ9_min_7cf53_10 : decode cJ9_min_7cf53 10 = .ok (.ireturn, 1) := by decide +kernel
abbrev vwCl : List vw_C := [(RX0, TX0, 2), (RX1, TX1, 4), (RX2, TX2, 5), (RX3, TX3, 1), (RX4, TX4, 8), (RX5, TX5, 10), (RX6, TX6, 5), (RX7, TX7, 7), (RX8, TX8, 7), (RX9, TX9, 9), (RX10, TX10, 25)]
