theorem dX9_init_0 : decode cX9_init 0 = .ok (.aload_n 0, 1) := by decide +kernel
theorem dX9_init_1 : decode cX9_init 1 = .ok (.invokespecial 1, 3) := by decide +kernel
theorem dX9_init_4 : decode cX9_init 4 = .ok (.aload_n 0, 1) := by decide +kernel
theorem dX9_init_5 : decode cX9_init 5 = .ok (.new 7, 3) := by decide +kernel
theorem dX9_init_8 : decode cX9_init 8 = .ok (.dup, 1) := by decide +kernel
theorem dX9_init_9 : decode cX9_init 9 = .ok (.invokespecial 9, 3) := by decide +kernel
theorem dX9_init_12 : decode cX9_init 12 = .ok (.putfield 10, 3) := by decide +kernel
theorem dX9_init_15 : decode cX9_init 15 = .ok (.aload_n 0, 1) := by decide +kernel
theorem dX9_init_16 : decode cX9_init 16 = .ok (.iconst 4, 1) := by decide +kernel
theorem dX9_init_17 : decode cX9_init 17 = .ok (.anewarray 7, 3) := by decide +kernel
theorem dX9_init_20 : decode cX9_init 20 = .ok (.putfield 16, 3) := by decide +kernel
theorem dX9_init_23 : decode cX9_init 23 = .ok (.aload_n 0, 1) := by decide +kernel
theorem dX9_init_24 : decode cX9_init 24 = .ok (.iconst 0, 1) := by decide +kernel
theorem dX9_init_25 : decode cX9_init 25 = .ok (.putfield 20, 3) := by decide +kernel
theorem dX9_init_28 : decode cX9_init 28 = .ok (.aload_n 0, 1) := by decide +kernel
theorem dX9_init_29 : decode cX9_init 29 = .ok (.new 7, 3) := by decide +kernel
theorem dX9_init_32 : decode cX9_init 32 = .ok (.dup, 1) := by decide +kernel
theorem dX9_init_33 : decode cX9_init 33 = .ok (.invokespecial 9, 3) := by decide +kernel
theorem dX9_init_36 : decode cX9_init 36 = .ok (.putfield 24, 3) := by decide +kernel
theorem dX9_init_39 : decode cX9_init 39 = .ok (.aload_n 0, 1) := by decide +kernel
theorem dX9_init_40 : decode cX9_init 40 = .ok (.iconst 0, 1) := by decide +kernel
theorem dX9_init_41 : decode cX9_init 41 = .ok (.putfield 27, 3) := by decide +kernel
theorem dX9_init_44 : decode cX9_init 44 = .ok (.aload_n 0, 1) := by decide +kernel
theorem dX9_init_45 : decode cX9_init 45 = .ok (.new 31, 3) := by decide +kernel
theorem dX9_init_48 : decode cX9_init 48 = .ok (.dup, 1) := by decide +kernel
theorem dX9_init_49 : decode cX9_init 49 = .ok (.invokespecial 33, 3) := by decide +kernel
theorem dX9_init_52 : decode cX9_init 52 = .ok (.putfield 34, 3) := by decide +kernel
theorem dX9_init_55 : decode cX9_init 55 = .ok (.aload_n 0, 1) := by decide +kernel
theorem dX9_init_56 : decode cX9_init 56 = .ok (.new 38, 3) := by decide +kernel
theorem dX9_init_59 : decode cX9_init 59 = .ok (.dup, 1) := by decide +kernel
theorem dX9_init_60 : decode cX9_init 60 = .ok (.invokespecial 40, 3) := by decide +kernel
theorem dX9_init_63 : decode cX9_init 63 = .ok (.putfield 41, 3) := by decide +kernel
theorem dX9_init_66 : decode cX9_init 66 = .ok (.aload_n 0, 1) := by decide +kernel
theorem dX9_init_67 : decode cX9_init 67 = .ok (.aload_n 0, 1) := by decide +kernel
theorem dX9_init_68 : decode cX9_init 68 = .ok (.getfield 41, 3) := by decide +kernel
theorem dX9_init_71 : decode cX9_init 71 = .ok (.getfield 45, 3) := by decide +kernel
theorem dX9_init_74 : decode cX9_init 74 = .ok (.putfield 49, 3) := by decide +kernel
theorem dX9_init_77 : decode cX9_init 77 = .ok (.aload_n 0, 1) := by decide +kernel
theorem dX9_init_78 : decode cX9_init 78 = .ok (.aload_n 0, 1) := by decide +kernel
theorem dX9_init_79 : decode cX9_init 79 = .ok (.getfield 49, 3) := by decide +kernel
theorem dX9_init_82 : decode cX9_init 82 = .ok (.getfield 50, 3) := by decide +kernel
theorem dX9_init_85 : decode cX9_init 85 = .ok (.putfield 56, 3) := by decide +kernel
theorem dX9_init_88 : decode cX9_init 88 = .ok (.iconst 0, 1) := by decide +kernel
theorem dX9_init_89 : decode cX9_init 89 = .ok (.istore_n 1, 1) := by decide +kernel
theorem dX9_init_90 : decode cX9_init 90 = .ok (.iload_n 1, 1) := by decide +kernel
theorem dX9_init_91 : decode cX9_init 91 = .ok (.iconst 4, 1) := by decide +kernel
theorem dX9_init_92 : decode cX9_init 92 = .ok (.if_icmp .ge 22, 3) := by decide +kernel
theorem dX9_init_95 : decode cX9_init 95 = .ok (.aload_n 0, 1) := by decide +kernel
theorem dX9_init_96 : decode cX9_init 96 = .ok (.getfield 16, 3) := by decide +kernel
theorem dX9_init_99 : decode cX9_init 99 = .ok (.iload_n 1, 1) := by decide +kernel
theorem dX9_init_100 : decode cX9_init 100 = .ok (.new 7, 3) := by decide +kernel
theorem dX9_init_103 : decode cX9_init 103 = .ok (.dup, 1) := by decide +kernel
theorem dX9_init_104 : decode cX9_init 104 = .ok (.invokespecial 9, 3) := by decide +kernel
theorem dX9_init_107 : decode cX9_init 107 = .ok (.aastore, 1) := by decide +kernel
theorem dX9_init_108 : decode cX9_init 108 = .ok (.iinc 1 1, 3) := by decide +kernel
theorem dX9_init_111 : decode cX9_init 111 = .ok (.goto (-21), 3) := by decide +kernel
theorem dX9_init_114 : decode cX9_init 114 = .ok (.return_, 1) := by decide +kernel
set_option maxRecDepth 20000 in
theorem ggX9_addStage_X7_isStage : GoodIn wsX9_addStage wsX7_isStage := goodIn_r _ [7, 8, 42, 43, 44, 45, 46, 47, 48] (by decide +kernel) (by decide +kernel)
set_option maxRecDepth 20000 in
theorem gX9_addStage_X7_isStage : GoodIn wsX9_addStage (wsV RX9 57 RX7 yX7_isStage wsX7_isStage) := goodIn_app (goodIn_of _ (by decide +kernel)) ggX9_addStage_X7_isStage
set_option maxRecDepth 20000 in
theorem ggX9_addStage_X9_record : GoodIn wsX9_addStage wsX9_record := goodIn_r _ [13, 14, 15, 1, 16, 17, 18, 6, 19, 8, 20, 21, 22, 33, 34, 35, 36, 37, 38, 39, 40, 41, 42, 43, 44, 45, 46, 47, 48] (by decide +kernel) (by decide +kernel)
set_option maxRecDepth 20000 in
theorem gX9_addStage_X9_record : GoodIn wsX9_addStage (wsV RX9 64 RX9 yX9_record wsX9_record) := goodIn_app (goodIn_of _ (by decide +kernel)) ggX9_addStage_X9_record
set_option maxRecDepth 20000 in
theorem ggX9_addStage_X7_grow : GoodIn wsX9_addStage wsX7_grow := goodIn_r _ [26, 8, 20, 21, 27, 28, 29, 6, 30, 31, 12, 32, 42, 43, 44, 45, 46, 47, 48] (by decide +kernel) (by decide +kernel)
set_option maxRecDepth 20000 in
theorem gX9_addStage_X7_grow : GoodIn wsX9_addStage (wsV RX9 67 RX7 yX7_grow wsX7_grow) := goodIn_app (goodIn_of _ (by decide +kernel)) ggX9_addStage_X7_grow
theorem dX9_addStage_0 : decode cX9_addStage 0 = .ok (.aload_n 0, 1) := by decide +kernel
theorem dX9_addStage_1 : decode cX9_addStage 1 = .ok (.getfield 10, 3) := by decide +kernel
theorem dX9_addStage_4 : decode cX9_addStage 4 = .ok (.iload_n 1, 1) := by decide +kernel
theorem dX9_addStage_5 : decode cX9_addStage 5 = .ok (.invokevirtual 57, 3) := by decide +kernel
theorem dX9_addStage_8 : decode cX9_addStage 8 = .ok (.ifCond .ne 5, 3) := by decide +kernel
theorem dX9_addStage_11 : decode cX9_addStage 11 = .ok (.iconst (-1), 1) := by decide +kernel
theorem dX9_addStage_12 : decode cX9_addStage 12 = .ok (.ireturn, 1) := by decide +kernel
theorem dX9_addStage_13 : decode cX9_addStage 13 = .ok (.aload_n 0, 1) := by decide +kernel
theorem dX9_addStage_14 : decode cX9_addStage 14 = .ok (.getfield 10, 3) := by decide +kernel
theorem dX9_addStage_17 : decode cX9_addStage 17 = .ok (.getfield 61, 3) := by decide +kernel
theorem dX9_addStage_20 : decode cX9_addStage 20 = .ok (.bipush 8, 2) := by decide +kernel
theorem dX9_addStage_22 : decode cX9_addStage 22 = .ok (.if_icmp .lt 6, 3) := by decide +kernel
theorem dX9_addStage_25 : decode cX9_addStage 25 = .ok (.bipush (-3), 2) := by decide +kernel
theorem dX9_addStage_27 : decode cX9_addStage 27 = .ok (.ireturn, 1) := by decide +kernel
theorem dX9_addStage_28 : decode cX9_addStage 28 = .ok (.aload_n 0, 1) := by decide +kernel
theorem dX9_addStage_29 : decode cX9_addStage 29 = .ok (.invokevirtual 64, 3) := by decide +kernel
theorem dX9_addStage_32 : decode cX9_addStage 32 = .ok (.aload_n 0, 1) := by decide +kernel
theorem dX9_addStage_33 : decode cX9_addStage 33 = .ok (.getfield 10, 3) := by decide +kernel
theorem dX9_addStage_36 : decode cX9_addStage 36 = .ok (.iload_n 1, 1) := by decide +kernel
theorem dX9_addStage_37 : decode cX9_addStage 37 = .ok (.invokevirtual 67, 3) := by decide +kernel
theorem dX9_addStage_40 : decode cX9_addStage 40 = .ok (.ireturn, 1) := by decide +kernel
set_option maxRecDepth 20000 in
theorem ggX9_lead_X7_isStage : GoodIn wsX9_lead wsX7_isStage := goodIn_r _ [7, 8, 58, 59, 60, 61, 62, 63, 64] (by decide +kernel) (by decide +kernel)
set_option maxRecDepth 20000 in
theorem gX9_lead_X7_isStage : GoodIn wsX9_lead (wsV RX9 57 RX7 yX7_isStage wsX7_isStage) := goodIn_app (goodIn_of _ (by decide +kernel)) ggX9_lead_X7_isStage
set_option maxRecDepth 20000 in
theorem ggX9_lead_X9_has : GoodIn wsX9_lead wsX9_has := goodIn_r _ [12] (by decide +kernel) (by decide +kernel)
set_option maxRecDepth 20000 in
theorem gX9_lead_X9_has : GoodIn wsX9_lead (va_wsS RX9 75 yX9_has wsX9_has) := goodIn_app (goodIn_of _ (by decide +kernel)) ggX9_lead_X9_has
set_option maxRecDepth 20000 in
theorem ggX9_lead_X9_record : GoodIn wsX9_lead wsX9_record := goodIn_r _ [16, 17, 18, 1, 19, 20, 21, 6, 22, 8, 23, 24, 25, 49, 50, 51, 52, 53, 54, 55, 56, 57, 58, 59, 60, 61, 62, 63, 64] (by decide +kernel) (by decide +kernel)
set_option maxRecDepth 20000 in
theorem gX9_lead_X9_record : GoodIn wsX9_lead (wsV RX9 64 RX9 yX9_record wsX9_record) := goodIn_app (goodIn_of _ (by decide +kernel)) ggX9_lead_X9_record
set_option maxRecDepth 20000 in
theorem ggX9_lead_X7_pairs : GoodIn wsX9_lead wsX7_pairs := goodIn_r _ [29, 8, 23, 30, 31, 32, 33, 34, 35, 36, 58, 59, 60, 61, 62, 63, 64] (by decide +kernel) (by decide +kernel)
set_option maxRecDepth 20000 in
theorem gX9_lead_X7_pairs : GoodIn wsX9_lead (wsV RX9 79 RX7 yX7_pairs wsX7_pairs) := goodIn_app (goodIn_of _ (by decide +kernel)) ggX9_lead_X7_pairs
set_option maxRecDepth 20000 in
theorem ggX9_lead_X7_connect : GoodIn wsX9_lead wsX7_connect := goodIn_r _ [40, 8, 23, 24, 41, 42, 43, 6, 44, 10, 11, 12, 45, 46, 47, 48, 58, 59, 60, 61, 62, 63, 64] (by decide +kernel) (by decide +kernel)
set_option maxRecDepth 20000 in
theorem gX9_lead_X7_connect : GoodIn wsX9_lead (wsV RX9 83 RX7 yX7_connect wsX7_connect) := goodIn_app (goodIn_of _ (by decide +kernel)) ggX9_lead_X7_connect
theorem dX9_lead_0 : decode cX9_lead 0 = .ok (.aload_n 0, 1) := by decide +kernel
theorem dX9_lead_1 : decode cX9_lead 1 = .ok (.getfield 10, 3) := by decide +kernel
theorem dX9_lead_4 : decode cX9_lead 4 = .ok (.iload_n 1, 1) := by decide +kernel
theorem dX9_lead_5 : decode cX9_lead 5 = .ok (.invokevirtual 57, 3) := by decide +kernel
theorem dX9_lead_8 : decode cX9_lead 8 = .ok (.ifCond .eq 14, 3) := by decide +kernel
theorem dX9_lead_11 : decode cX9_lead 11 = .ok (.aload_n 0, 1) := by decide +kernel
theorem dX9_lead_12 : decode cX9_lead 12 = .ok (.getfield 10, 3) := by decide +kernel
theorem dX9_lead_15 : decode cX9_lead 15 = .ok (.iload_n 2, 1) := by decide +kernel
theorem dX9_lead_16 : decode cX9_lead 16 = .ok (.invokevirtual 57, 3) := by decide +kernel
theorem dX9_lead_19 : decode cX9_lead 19 = .ok (.ifCond .ne 5, 3) := by decide +kernel
theorem dX9_lead_22 : decode cX9_lead 22 = .ok (.iconst (-1), 1) := by decide +kernel
theorem dX9_lead_23 : decode cX9_lead 23 = .ok (.ireturn, 1) := by decide +kernel
theorem dX9_lead_24 : decode cX9_lead 24 = .ok (.iload_n 2, 1) := by decide +kernel
theorem dX9_lead_25 : decode cX9_lead 25 = .ok (.iload_n 1, 1) := by decide +kernel
theorem dX9_lead_26 : decode cX9_lead 26 = .ok (.if_icmp .gt 6, 3) := by decide +kernel
theorem dX9_lead_29 : decode cX9_lead 29 = .ok (.bipush (-2), 2) := by decide +kernel
theorem dX9_lead_31 : decode cX9_lead 31 = .ok (.ireturn, 1) := by decide +kernel
theorem dX9_lead_32 : decode cX9_lead 32 = .ok (.aload_n 0, 1) := by decide +kernel
theorem dX9_lead_33 : decode cX9_lead 33 = .ok (.getfield 10, 3) := by decide +kernel
theorem dX9_lead_36 : decode cX9_lead 36 = .ok (.getfield 71, 3) := by decide +kernel
theorem dX9_lead_39 : decode cX9_lead 39 = .ok (.iload_n 1, 1) := by decide +kernel
theorem dX9_lead_40 : decode cX9_lead 40 = .ok (.iaload, 1) := by decide +kernel
theorem dX9_lead_41 : decode cX9_lead 41 = .ok (.iload_n 2, 1) := by decide +kernel
theorem dX9_lead_42 : decode cX9_lead 42 = .ok (.invokestatic 75, 3) := by decide +kernel
theorem dX9_lead_45 : decode cX9_lead 45 = .ok (.ifCond .eq 6, 3) := by decide +kernel
theorem dX9_lead_48 : decode cX9_lead 48 = .ok (.bipush (-5), 2) := by decide +kernel
theorem dX9_lead_50 : decode cX9_lead 50 = .ok (.ireturn, 1) := by decide +kernel
theorem dX9_lead_51 : decode cX9_lead 51 = .ok (.aload_n 0, 1) := by decide +kernel
theorem dX9_lead_52 : decode cX9_lead 52 = .ok (.invokevirtual 64, 3) := by decide +kernel
theorem dX9_lead_55 : decode cX9_lead 55 = .ok (.aload_n 0, 1) := by decide +kernel
theorem dX9_lead_56 : decode cX9_lead 56 = .ok (.getfield 10, 3) := by decide +kernel
theorem dX9_lead_59 : decode cX9_lead 59 = .ok (.invokevirtual 79, 3) := by decide +kernel
theorem dX9_lead_62 : decode cX9_lead 62 = .ok (.istore_n 3, 1) := by decide +kernel
theorem dX9_lead_63 : decode cX9_lead 63 = .ok (.aload_n 0, 1) := by decide +kernel
theorem dX9_lead_64 : decode cX9_lead 64 = .ok (.getfield 10, 3) := by decide +kernel
theorem dX9_lead_67 : decode cX9_lead 67 = .ok (.iload_n 1, 1) := by decide +kernel
theorem dX9_lead_68 : decode cX9_lead 68 = .ok (.iload_n 2, 1) := by decide +kernel
theorem dX9_lead_69 : decode cX9_lead 69 = .ok (.invokevirtual 83, 3) := by decide +kernel
theorem dX9_lead_72 : decode cX9_lead 72 = .ok (.aload_n 0, 1) := by decide +kernel
theorem dX9_lead_73 : decode cX9_lead 73 = .ok (.getfield 10, 3) := by decide +kernel
theorem dX9_lead_76 : decode cX9_lead 76 = .ok (.invokevirtual 79, 3) := by decide +kernel
theorem dX9_lead_79 : decode cX9_lead 79 = .ok (.iload_n 3, 1) := by decide +kernel
theorem dX9_lead_80 : decode cX9_lead 80 = .ok (.isub, 1) := by decide +kernel
theorem dX9_lead_81 : decode cX9_lead 81 = .ok (.ireturn, 1) := by decide +kernel
set_option maxRecDepth 20000 in
theorem ggX9_learn_X7_isStage : GoodIn wsX9_learn wsX7_isStage := goodIn_r _ [8, 9, 47, 48, 49, 50, 51, 52, 53] (by decide +kernel) (by decide +kernel)
set_option maxRecDepth 20000 in
theorem gX9_learn_X7_isStage : GoodIn wsX9_learn (wsV RX9 57 RX7 yX7_isStage wsX7_isStage) := goodIn_app (goodIn_of _ (by decide +kernel)) ggX9_learn_X7_isStage
set_option maxRecDepth 20000 in
theorem ggX9_learn_X9_isFact : GoodIn wsX9_learn wsX9_isFact := goodIn_r _ [13] (by decide +kernel) (by decide +kernel)
set_option maxRecDepth 20000 in
theorem gX9_learn_X9_isFact : GoodIn wsX9_learn (va_wsS RX9 87 yX9_isFact wsX9_isFact) := goodIn_app (goodIn_of _ (by decide +kernel)) ggX9_learn_X9_isFact
set_option maxRecDepth 20000 in
theorem ggX9_learn_X9_has : GoodIn wsX9_learn wsX9_has := goodIn_r _ [16] (by decide +kernel) (by decide +kernel)
set_option maxRecDepth 20000 in
theorem gX9_learn_X9_has : GoodIn wsX9_learn (va_wsS RX9 75 yX9_has wsX9_has) := goodIn_app (goodIn_of _ (by decide +kernel)) ggX9_learn_X9_has
set_option maxRecDepth 20000 in
theorem ggX9_learn_X9_record : GoodIn wsX9_learn wsX9_record := goodIn_r _ [20, 21, 22, 1, 23, 24, 25, 7, 26, 9, 27, 28, 29, 38, 39, 40, 41, 42, 43, 44, 45, 46, 47, 48, 49, 50, 51, 52, 53] (by decide +kernel) (by decide +kernel)
set_option maxRecDepth 20000 in
theorem gX9_learn_X9_record : GoodIn wsX9_learn (wsV RX9 64 RX9 yX9_record wsX9_record) := goodIn_app (goodIn_of _ (by decide +kernel)) ggX9_learn_X9_record
set_option maxRecDepth 20000 in
theorem ggX9_learn_X7_teach : GoodIn wsX9_learn wsX7_teach := goodIn_r _ [33, 9, 28, 15, 12, 16, 47, 48, 49, 50, 51, 52, 53] (by decide +kernel) (by decide +kernel)
set_option maxRecDepth 20000 in
theorem gX9_learn_X7_teach : GoodIn wsX9_learn (wsV RX9 93 RX7 yX7_teach wsX7_teach) := goodIn_app (goodIn_of _ (by decide +kernel)) ggX9_learn_X7_teach
set_option maxRecDepth 20000 in
theorem ggX9_learn_X7_knowing : GoodIn wsX9_learn wsX7_knowing := goodIn_r _ [37, 9, 28, 47, 48, 49, 50, 51, 52, 53] (by decide +kernel) (by decide +kernel)
set_option maxRecDepth 20000 in
theorem gX9_learn_X7_knowing : GoodIn wsX9_learn (wsV RX9 96 RX7 yX7_knowing wsX7_knowing) := goodIn_app (goodIn_of _ (by decide +kernel)) ggX9_learn_X7_knowing
theorem dX9_learn_0 : decode cX9_learn 0 = .ok (.aload_n 0, 1) := by decide +kernel
theorem dX9_learn_1 : decode cX9_learn 1 = .ok (.getfield 10, 3) := by decide +kernel
theorem dX9_learn_4 : decode cX9_learn 4 = .ok (.iload_n 1, 1) := by decide +kernel
theorem dX9_learn_5 : decode cX9_learn 5 = .ok (.invokevirtual 57, 3) := by decide +kernel
theorem dX9_learn_8 : decode cX9_learn 8 = .ok (.ifCond .eq 10, 3) := by decide +kernel
theorem dX9_learn_11 : decode cX9_learn 11 = .ok (.iload_n 2, 1) := by decide +kernel
theorem dX9_learn_12 : decode cX9_learn 12 = .ok (.invokestatic 87, 3) := by decide +kernel
theorem dX9_learn_15 : decode cX9_learn 15 = .ok (.ifCond .ne 5, 3) := by decide +kernel
theorem dX9_learn_18 : decode cX9_learn 18 = .ok (.iconst (-1), 1) := by decide +kernel
theorem dX9_learn_19 : decode cX9_learn 19 = .ok (.ireturn, 1) := by decide +kernel
theorem dX9_learn_20 : decode cX9_learn 20 = .ok (.aload_n 0, 1) := by decide +kernel
theorem dX9_learn_21 : decode cX9_learn 21 = .ok (.getfield 10, 3) := by decide +kernel
theorem dX9_learn_24 : decode cX9_learn 24 = .ok (.getfield 90, 3) := by decide +kernel
theorem dX9_learn_27 : decode cX9_learn 27 = .ok (.iload_n 1, 1) := by decide +kernel
theorem dX9_learn_28 : decode cX9_learn 28 = .ok (.iaload, 1) := by decide +kernel
theorem dX9_learn_29 : decode cX9_learn 29 = .ok (.iload_n 2, 1) := by decide +kernel
theorem dX9_learn_30 : decode cX9_learn 30 = .ok (.invokestatic 75, 3) := by decide +kernel
theorem dX9_learn_33 : decode cX9_learn 33 = .ok (.ifCond .eq 6, 3) := by decide +kernel
theorem dX9_learn_36 : decode cX9_learn 36 = .ok (.bipush (-5), 2) := by decide +kernel
theorem dX9_learn_38 : decode cX9_learn 38 = .ok (.ireturn, 1) := by decide +kernel
theorem dX9_learn_39 : decode cX9_learn 39 = .ok (.aload_n 0, 1) := by decide +kernel
theorem dX9_learn_40 : decode cX9_learn 40 = .ok (.invokevirtual 64, 3) := by decide +kernel
theorem dX9_learn_43 : decode cX9_learn 43 = .ok (.aload_n 0, 1) := by decide +kernel
theorem dX9_learn_44 : decode cX9_learn 44 = .ok (.getfield 10, 3) := by decide +kernel
theorem dX9_learn_47 : decode cX9_learn 47 = .ok (.aload_n 0, 1) := by decide +kernel
theorem dX9_learn_48 : decode cX9_learn 48 = .ok (.getfield 10, 3) := by decide +kernel
theorem dX9_learn_51 : decode cX9_learn 51 = .ok (.getfield 71, 3) := by decide +kernel
theorem dX9_learn_54 : decode cX9_learn 54 = .ok (.iload_n 1, 1) := by decide +kernel
theorem dX9_learn_55 : decode cX9_learn 55 = .ok (.iaload, 1) := by decide +kernel
theorem dX9_learn_56 : decode cX9_learn 56 = .ok (.iconst 1, 1) := by decide +kernel
theorem dX9_learn_57 : decode cX9_learn 57 = .ok (.iload_n 2, 1) := by decide +kernel
theorem dX9_learn_58 : decode cX9_learn 58 = .ok (.ishl, 1) := by decide +kernel
theorem dX9_learn_59 : decode cX9_learn 59 = .ok (.invokevirtual 93, 3) := by decide +kernel
theorem dX9_learn_62 : decode cX9_learn 62 = .ok (.aload_n 0, 1) := by decide +kernel
theorem dX9_learn_63 : decode cX9_learn 63 = .ok (.getfield 10, 3) := by decide +kernel
theorem dX9_learn_66 : decode cX9_learn 66 = .ok (.iload_n 2, 1) := by decide +kernel
theorem dX9_learn_67 : decode cX9_learn 67 = .ok (.invokevirtual 96, 3) := by decide +kernel
theorem dX9_learn_70 : decode cX9_learn 70 = .ok (.ireturn, 1) := by decide +kernel
set_option maxRecDepth 20000 in
theorem ggX9_forget_X7_isStage : GoodIn wsX9_forget wsX7_isStage := goodIn_r _ [7, 8, 50, 51, 52, 53, 54, 55, 56] (by decide +kernel) (by decide +kernel)
set_option maxRecDepth 20000 in
theorem gX9_forget_X7_isStage : GoodIn wsX9_forget (wsV RX9 57 RX7 yX7_isStage wsX7_isStage) := goodIn_app (goodIn_of _ (by decide +kernel)) ggX9_forget_X7_isStage
set_option maxRecDepth 20000 in
theorem ggX9_forget_X9_isFact : GoodIn wsX9_forget wsX9_isFact := goodIn_r _ [12] (by decide +kernel) (by decide +kernel)
set_option maxRecDepth 20000 in
theorem gX9_forget_X9_isFact : GoodIn wsX9_forget (va_wsS RX9 87 yX9_isFact wsX9_isFact) := goodIn_app (goodIn_of _ (by decide +kernel)) ggX9_forget_X9_isFact
set_option maxRecDepth 20000 in
theorem ggX9_forget_X9_has : GoodIn wsX9_forget wsX9_has := goodIn_r _ [15] (by decide +kernel) (by decide +kernel)
set_option maxRecDepth 20000 in
theorem gX9_forget_X9_has : GoodIn wsX9_forget (va_wsS RX9 75 yX9_has wsX9_has) := goodIn_app (goodIn_of _ (by decide +kernel)) ggX9_forget_X9_has
set_option maxRecDepth 20000 in
theorem ggX9_forget_X9_record : GoodIn wsX9_forget wsX9_record := goodIn_r _ [19, 20, 21, 1, 22, 23, 24, 6, 25, 8, 26, 27, 28, 41, 42, 43, 44, 45, 46, 47, 48, 49, 50, 51, 52, 53, 54, 55, 56] (by decide +kernel) (by decide +kernel)
set_option maxRecDepth 20000 in
theorem gX9_forget_X9_record : GoodIn wsX9_forget (wsV RX9 64 RX9 yX9_record wsX9_record) := goodIn_app (goodIn_of _ (by decide +kernel)) ggX9_forget_X9_record
set_option maxRecDepth 20000 in
theorem ggX9_forget_X7_earlier : GoodIn wsX9_forget wsX7_earlier := goodIn_r _ [32, 8, 26, 50, 51, 52, 53, 54, 55, 56] (by decide +kernel) (by decide +kernel)
set_option maxRecDepth 20000 in
theorem gX9_forget_X7_earlier : GoodIn wsX9_forget (wsV RX9 99 RX7 yX7_earlier wsX7_earlier) := goodIn_app (goodIn_of _ (by decide +kernel)) ggX9_forget_X7_earlier
set_option maxRecDepth 20000 in
theorem ggX9_forget_X7_unteach : GoodIn wsX9_forget wsX7_unteach := goodIn_r _ [36, 8, 27, 14, 11, 15, 50, 51, 52, 53, 54, 55, 56] (by decide +kernel) (by decide +kernel)
set_option maxRecDepth 20000 in
theorem gX9_forget_X7_unteach : GoodIn wsX9_forget (wsV RX9 102 RX7 yX7_unteach wsX7_unteach) := goodIn_app (goodIn_of _ (by decide +kernel)) ggX9_forget_X7_unteach
set_option maxRecDepth 20000 in
theorem ggX9_forget_X7_knowing : GoodIn wsX9_forget wsX7_knowing := goodIn_r _ [40, 8, 27, 50, 51, 52, 53, 54, 55, 56] (by decide +kernel) (by decide +kernel)
set_option maxRecDepth 20000 in
theorem gX9_forget_X7_knowing : GoodIn wsX9_forget (wsV RX9 96 RX7 yX7_knowing wsX7_knowing) := goodIn_app (goodIn_of _ (by decide +kernel)) ggX9_forget_X7_knowing
theorem dX9_forget_0 : decode cX9_forget 0 = .ok (.aload_n 0, 1) := by decide +kernel
theorem dX9_forget_1 : decode cX9_forget 1 = .ok (.getfield 10, 3) := by decide +kernel
theorem dX9_forget_4 : decode cX9_forget 4 = .ok (.iload_n 1, 1) := by decide +kernel
theorem dX9_forget_5 : decode cX9_forget 5 = .ok (.invokevirtual 57, 3) := by decide +kernel
theorem dX9_forget_8 : decode cX9_forget 8 = .ok (.ifCond .eq 10, 3) := by decide +kernel
theorem dX9_forget_11 : decode cX9_forget 11 = .ok (.iload_n 2, 1) := by decide +kernel
theorem dX9_forget_12 : decode cX9_forget 12 = .ok (.invokestatic 87, 3) := by decide +kernel
theorem dX9_forget_15 : decode cX9_forget 15 = .ok (.ifCond .ne 5, 3) := by decide +kernel
theorem dX9_forget_18 : decode cX9_forget 18 = .ok (.iconst (-1), 1) := by decide +kernel
theorem dX9_forget_19 : decode cX9_forget 19 = .ok (.ireturn, 1) := by decide +kernel
theorem dX9_forget_20 : decode cX9_forget 20 = .ok (.aload_n 0, 1) := by decide +kernel
theorem dX9_forget_21 : decode cX9_forget 21 = .ok (.getfield 10, 3) := by decide +kernel
theorem dX9_forget_24 : decode cX9_forget 24 = .ok (.getfield 90, 3) := by decide +kernel
theorem dX9_forget_27 : decode cX9_forget 27 = .ok (.iload_n 1, 1) := by decide +kernel
theorem dX9_forget_28 : decode cX9_forget 28 = .ok (.iaload, 1) := by decide +kernel
theorem dX9_forget_29 : decode cX9_forget 29 = .ok (.iload_n 2, 1) := by decide +kernel
theorem dX9_forget_30 : decode cX9_forget 30 = .ok (.invokestatic 75, 3) := by decide +kernel
theorem dX9_forget_33 : decode cX9_forget 33 = .ok (.ifCond .ne 6, 3) := by decide +kernel
theorem dX9_forget_36 : decode cX9_forget 36 = .ok (.bipush (-5), 2) := by decide +kernel
theorem dX9_forget_38 : decode cX9_forget 38 = .ok (.ireturn, 1) := by decide +kernel
theorem dX9_forget_39 : decode cX9_forget 39 = .ok (.aload_n 0, 1) := by decide +kernel
theorem dX9_forget_40 : decode cX9_forget 40 = .ok (.invokevirtual 64, 3) := by decide +kernel
theorem dX9_forget_43 : decode cX9_forget 43 = .ok (.aload_n 0, 1) := by decide +kernel
theorem dX9_forget_44 : decode cX9_forget 44 = .ok (.getfield 10, 3) := by decide +kernel
theorem dX9_forget_47 : decode cX9_forget 47 = .ok (.aload_n 0, 1) := by decide +kernel
theorem dX9_forget_48 : decode cX9_forget 48 = .ok (.getfield 10, 3) := by decide +kernel
theorem dX9_forget_51 : decode cX9_forget 51 = .ok (.iload_n 1, 1) := by decide +kernel
theorem dX9_forget_52 : decode cX9_forget 52 = .ok (.invokevirtual 99, 3) := by decide +kernel
theorem dX9_forget_55 : decode cX9_forget 55 = .ok (.iconst 1, 1) := by decide +kernel
theorem dX9_forget_56 : decode cX9_forget 56 = .ok (.iload_n 2, 1) := by decide +kernel
theorem dX9_forget_57 : decode cX9_forget 57 = .ok (.ishl, 1) := by decide +kernel
theorem dX9_forget_58 : decode cX9_forget 58 = .ok (.invokevirtual 102, 3) := by decide +kernel
theorem dX9_forget_61 : decode cX9_forget 61 = .ok (.aload_n 0, 1) := by decide +kernel
theorem dX9_forget_62 : decode cX9_forget 62 = .ok (.getfield 10, 3) := by decide +kernel
theorem dX9_forget_65 : decode cX9_forget 65 = .ok (.iload_n 2, 1) := by decide +kernel
theorem dX9_forget_66 : decode cX9_forget 66 = .ok (.invokevirtual 96, 3) := by decide +kernel
theorem dX9_forget_69 : decode cX9_forget 69 = .ok (.ireturn, 1) := by decide +kernel
set_option maxRecDepth 20000 in
theorem ggX9_removeStage_X7_isStage : GoodIn wsX9_removeStage wsX7_isStage := goodIn_r _ [7, 8, 36, 37, 38, 39, 40, 41, 42] (by decide +kernel) (by decide +kernel)
set_option maxRecDepth 20000 in
theorem gX9_removeStage_X7_isStage : GoodIn wsX9_removeStage (wsV RX9 57 RX7 yX7_isStage wsX7_isStage) := goodIn_app (goodIn_of _ (by decide +kernel)) ggX9_removeStage_X7_isStage
set_option maxRecDepth 20000 in
theorem ggX9_removeStage_X9_record : GoodIn wsX9_removeStage wsX9_record := goodIn_r _ [13, 14, 15, 1, 16, 17, 18, 6, 19, 8, 20, 21, 22, 27, 28, 29, 30, 31, 32, 33, 34, 35, 36, 37, 38, 39, 40, 41, 42] (by decide +kernel) (by decide +kernel)
set_option maxRecDepth 20000 in
theorem gX9_removeStage_X9_record : GoodIn wsX9_removeStage (wsV RX9 64 RX9 yX9_record wsX9_record) := goodIn_app (goodIn_of _ (by decide +kernel)) ggX9_removeStage_X9_record
set_option maxRecDepth 20000 in
theorem ggX9_removeStage_X7_takeOut : GoodIn wsX9_removeStage wsX7_takeOut := goodIn_r _ [26, 8, 20, 21, 36, 37, 38, 39, 40, 41, 42] (by decide +kernel) (by decide +kernel)
set_option maxRecDepth 20000 in
theorem gX9_removeStage_X7_takeOut : GoodIn wsX9_removeStage (wsV RX9 105 RX7 yX7_takeOut wsX7_takeOut) := goodIn_app (goodIn_of _ (by decide +kernel)) ggX9_removeStage_X7_takeOut
theorem dX9_removeStage_0 : decode cX9_removeStage 0 = .ok (.aload_n 0, 1) := by decide +kernel
theorem dX9_removeStage_1 : decode cX9_removeStage 1 = .ok (.getfield 10, 3) := by decide +kernel
theorem dX9_removeStage_4 : decode cX9_removeStage 4 = .ok (.iload_n 1, 1) := by decide +kernel
theorem dX9_removeStage_5 : decode cX9_removeStage 5 = .ok (.invokevirtual 57, 3) := by decide +kernel
theorem dX9_removeStage_8 : decode cX9_removeStage 8 = .ok (.ifCond .ne 5, 3) := by decide +kernel
theorem dX9_removeStage_11 : decode cX9_removeStage 11 = .ok (.iconst (-1), 1) := by decide +kernel
theorem dX9_removeStage_12 : decode cX9_removeStage 12 = .ok (.ireturn, 1) := by decide +kernel
theorem dX9_removeStage_13 : decode cX9_removeStage 13 = .ok (.aload_n 0, 1) := by decide +kernel
theorem dX9_removeStage_14 : decode cX9_removeStage 14 = .ok (.getfield 10, 3) := by decide +kernel
theorem dX9_removeStage_17 : decode cX9_removeStage 17 = .ok (.getfield 61, 3) := by decide +kernel
theorem dX9_removeStage_20 : decode cX9_removeStage 20 = .ok (.iconst 1, 1) := by decide +kernel
theorem dX9_removeStage_21 : decode cX9_removeStage 21 = .ok (.if_icmp .gt 6, 3) := by decide +kernel
theorem dX9_removeStage_24 : decode cX9_removeStage 24 = .ok (.bipush (-4), 2) := by decide +kernel
theorem dX9_removeStage_26 : decode cX9_removeStage 26 = .ok (.ireturn, 1) := by decide +kernel
theorem dX9_removeStage_27 : decode cX9_removeStage 27 = .ok (.aload_n 0, 1) := by decide +kernel
theorem dX9_removeStage_28 : decode cX9_removeStage 28 = .ok (.invokevirtual 64, 3) := by decide +kernel
theorem dX9_removeStage_31 : decode cX9_removeStage 31 = .ok (.aload_n 0, 1) := by decide +kernel
theorem dX9_removeStage_32 : decode cX9_removeStage 32 = .ok (.getfield 10, 3) := by decide +kernel
theorem dX9_removeStage_35 : decode cX9_removeStage 35 = .ok (.iload_n 1, 1) := by decide +kernel
theorem dX9_removeStage_36 : decode cX9_removeStage 36 = .ok (.invokevirtual 105, 3) := by decide +kernel
theorem dX9_removeStage_39 : decode cX9_removeStage 39 = .ok (.aload_n 0, 1) := by decide +kernel
theorem dX9_removeStage_40 : decode cX9_removeStage 40 = .ok (.getfield 10, 3) := by decide +kernel
theorem dX9_removeStage_43 : decode cX9_removeStage 43 = .ok (.getfield 61, 3) := by decide +kernel
theorem dX9_removeStage_46 : decode cX9_removeStage 46 = .ok (.ireturn, 1) := by decide +kernel
set_option maxRecDepth 20000 in
theorem ggX9_shrink_X7_findLikes : GoodIn wsX9_shrink wsX7_findLikes := goodIn_r _ [7, 8, 9, 10, 11, 12, 13, 14, 15, 6, 16, 17, 18, 19, 20, 21, 22, 23, 62, 63, 64, 65, 66, 67, 68] (by decide +kernel) (by decide +kernel)
set_option maxRecDepth 20000 in
theorem gX9_shrink_X7_findLikes : GoodIn wsX9_shrink (wsV RX9 109 RX7 yX7_findLikes wsX7_findLikes) := goodIn_app (goodIn_of _ (by decide +kernel)) ggX9_shrink_X7_findLikes
set_option maxRecDepth 20000 in
theorem ggX9_shrink_X7_unlike : GoodIn wsX9_shrink wsX7_unlike := goodIn_r _ [27, 8, 9, 28, 22, 29, 62, 63, 64, 65, 66, 67, 68] (by decide +kernel) (by decide +kernel)
set_option maxRecDepth 20000 in
theorem gX9_shrink_X7_unlike : GoodIn wsX9_shrink (wsV RX9 112 RX7 yX7_unlike wsX7_unlike) := goodIn_app (goodIn_of _ (by decide +kernel)) ggX9_shrink_X7_unlike
set_option maxRecDepth 20000 in
theorem ggX9_shrink_X7_mergeLeadsBack : GoodIn wsX9_shrink wsX7_mergeLeadsBack := goodIn_r _ [33, 8, 9, 12, 17, 18, 19, 6, 20, 21, 22, 23, 62, 63, 64, 65, 66, 67, 68] (by decide +kernel) (by decide +kernel)
set_option maxRecDepth 20000 in
theorem gX9_shrink_X7_mergeLeadsBack : GoodIn wsX9_shrink (wsV RX9 115 RX7 yX7_mergeLeadsBack wsX7_mergeLeadsBack) := goodIn_app (goodIn_of _ (by decide +kernel)) ggX9_shrink_X7_mergeLeadsBack
set_option maxRecDepth 20000 in
theorem ggX9_shrink_X9_record : GoodIn wsX9_shrink wsX9_record := goodIn_r _ [37, 38, 39, 1, 40, 41, 42, 6, 43, 8, 12, 11, 44, 53, 54, 55, 56, 57, 58, 59, 60, 61, 62, 63, 64, 65, 66, 67, 68] (by decide +kernel) (by decide +kernel)
set_option maxRecDepth 20000 in
theorem gX9_shrink_X9_record : GoodIn wsX9_shrink (wsV RX9 64 RX9 yX9_record wsX9_record) := goodIn_app (goodIn_of _ (by decide +kernel)) ggX9_shrink_X9_record
set_option maxRecDepth 20000 in
theorem ggX9_shrink_X7_merge : GoodIn wsX9_shrink wsX7_merge := goodIn_r _ [48, 8, 12, 9, 17, 18, 19, 6, 20, 21, 22, 23, 49, 50, 51, 52, 11, 62, 63, 64, 65, 66, 67, 68] (by decide +kernel) (by decide +kernel)
set_option maxRecDepth 20000 in
theorem gX9_shrink_X7_merge : GoodIn wsX9_shrink (wsV RX9 119 RX7 yX7_merge wsX7_merge) := goodIn_app (goodIn_of _ (by decide +kernel)) ggX9_shrink_X7_merge
theorem dX9_shrink_0 : decode cX9_shrink 0 = .ok (.aload_n 0, 1) := by decide +kernel
theorem dX9_shrink_1 : decode cX9_shrink 1 = .ok (.getfield 10, 3) := by decide +kernel
theorem dX9_shrink_4 : decode cX9_shrink 4 = .ok (.invokevirtual 109, 3) := by decide +kernel
theorem dX9_shrink_7 : decode cX9_shrink 7 = .ok (.aload_n 0, 1) := by decide +kernel
theorem dX9_shrink_8 : decode cX9_shrink 8 = .ok (.getfield 10, 3) := by decide +kernel
theorem dX9_shrink_11 : decode cX9_shrink 11 = .ok (.getfield 61, 3) := by decide +kernel
theorem dX9_shrink_14 : decode cX9_shrink 14 = .ok (.aload_n 0, 1) := by decide +kernel
theorem dX9_shrink_15 : decode cX9_shrink 15 = .ok (.getfield 10, 3) := by decide +kernel
theorem dX9_shrink_18 : decode cX9_shrink 18 = .ok (.invokevirtual 112, 3) := by decide +kernel
theorem dX9_shrink_21 : decode cX9_shrink 21 = .ok (.isub, 1) := by decide +kernel
theorem dX9_shrink_22 : decode cX9_shrink 22 = .ok (.istore_n 1, 1) := by decide +kernel
theorem dX9_shrink_23 : decode cX9_shrink 23 = .ok (.aload_n 0, 1) := by decide +kernel
theorem dX9_shrink_24 : decode cX9_shrink 24 = .ok (.getfield 10, 3) := by decide +kernel
theorem dX9_shrink_27 : decode cX9_shrink 27 = .ok (.invokevirtual 115, 3) := by decide +kernel
theorem dX9_shrink_30 : decode cX9_shrink 30 = .ok (.ifCond .eq 6, 3) := by decide +kernel
theorem dX9_shrink_33 : decode cX9_shrink 33 = .ok (.bipush (-4), 2) := by decide +kernel
theorem dX9_shrink_35 : decode cX9_shrink 35 = .ok (.ireturn, 1) := by decide +kernel
theorem dX9_shrink_36 : decode cX9_shrink 36 = .ok (.iload_n 1, 1) := by decide +kernel
theorem dX9_shrink_37 : decode cX9_shrink 37 = .ok (.ifCond .ne 6, 3) := by decide +kernel
theorem dX9_shrink_40 : decode cX9_shrink 40 = .ok (.bipush (-5), 2) := by decide +kernel
theorem dX9_shrink_42 : decode cX9_shrink 42 = .ok (.ireturn, 1) := by decide +kernel
theorem dX9_shrink_43 : decode cX9_shrink 43 = .ok (.aload_n 0, 1) := by decide +kernel
theorem dX9_shrink_44 : decode cX9_shrink 44 = .ok (.invokevirtual 64, 3) := by decide +kernel
theorem dX9_shrink_47 : decode cX9_shrink 47 = .ok (.aload_n 0, 1) := by decide +kernel
theorem dX9_shrink_48 : decode cX9_shrink 48 = .ok (.getfield 10, 3) := by decide +kernel
theorem dX9_shrink_51 : decode cX9_shrink 51 = .ok (.invokevirtual 119, 3) := by decide +kernel
theorem dX9_shrink_54 : decode cX9_shrink 54 = .ok (.iload_n 1, 1) := by decide +kernel
theorem dX9_shrink_55 : decode cX9_shrink 55 = .ok (.ireturn, 1) := by decide +kernel
set_option maxRecDepth 20000 in
theorem ggX9_put_X9_isPlace : GoodIn wsX9_put wsX9_isPlace := goodIn_r _ [7] (by decide +kernel) (by decide +kernel)
set_option maxRecDepth 20000 in
theorem gX9_put_X9_isPlace : GoodIn wsX9_put (va_wsS RX9 122 yX9_isPlace wsX9_isPlace) := goodIn_app (goodIn_of _ (by decide +kernel)) ggX9_put_X9_isPlace
set_option maxRecDepth 20000 in
theorem ggX9_put_X8_readFault_h : GoodIn wsX9_put [Cond.code yX8_readFault cX8_readFault 4 (some .int)] := goodIn_r _ [12] (by decide +kernel) (by decide +kernel)
set_option maxRecDepth 20000 in
theorem ggX9_put_X8_readFault_0 : GoodIn wsX9_put wsX8_readFault_r1 := goodIn_r _ [13, 14, 15, 16, 17, 18, 19, 20, 11, 21, 22, 23, 24, 25, 26, 27, 28, 29, 30, 31, 32, 33, 34, 35] (by decide +kernel) (by decide +kernel)
set_option maxRecDepth 20000 in
theorem ggX9_put_X8_readFault_1 : GoodIn wsX9_put wsX8_readFault_r2 := goodIn_r _ [36, 37, 38, 39, 40, 41, 42, 43, 44, 45, 46] (by decide +kernel) (by decide +kernel)
set_option maxRecDepth 20000 in
theorem ggX9_put_X8_readFault_2 : GoodIn wsX9_put wsX80 := goodIn_r _ [163, 164, 165, 166, 167, 168, 169] (by decide +kernel) (by decide +kernel)
theorem ggX9_put_X8_readFault : GoodIn wsX9_put wsX8_readFault := goodIn_app ggX9_put_X8_readFault_h (goodIn_app (goodIn_app ggX9_put_X8_readFault_0 ggX9_put_X8_readFault_1) ggX9_put_X8_readFault_2)
set_option maxRecDepth 20000 in
theorem gX9_put_X8_readFault : GoodIn wsX9_put (wsV RX9 125 RX8 yX8_readFault wsX8_readFault) := goodIn_app (goodIn_of _ (by decide +kernel)) ggX9_put_X8_readFault
set_option maxRecDepth 20000 in
theorem ggX9_put_X8_made : GoodIn wsX9_put wsX8_made := goodIn_r _ [50, 51, 52, 53, 26, 13, 54, 55, 56, 57, 58, 59, 60, 61, 38, 62, 63, 37, 39, 64, 65, 66, 170, 171, 163, 164, 165, 166, 167, 168, 169] (by decide +kernel) (by decide +kernel)
set_option maxRecDepth 20000 in
theorem gX9_put_X8_made : GoodIn wsX9_put (wsV RX9 128 RX8 yX8_made wsX8_made) := goodIn_app (goodIn_of _ (by decide +kernel)) ggX9_put_X8_made
set_option maxRecDepth 20000 in
theorem ggX9_put_X9_claimAt : GoodIn wsX9_put wsX9_claimAt := goodIn_r _ [70, 2, 3, 4, 5, 6, 7, 147, 148, 149, 150, 151, 152, 153, 154, 155, 156, 157, 158, 159, 160, 161, 162] (by decide +kernel) (by decide +kernel)
set_option maxRecDepth 20000 in
theorem gX9_put_X9_claimAt : GoodIn wsX9_put (wsV RX9 132 RX9 yX9_claimAt wsX9_claimAt) := goodIn_app (goodIn_of _ (by decide +kernel)) ggX9_put_X9_claimAt
set_option maxRecDepth 20000 in
theorem ggX9_put_X0_isSameAs : GoodIn wsX9_put wsX0_isSameAs := goodIn_r _ [74, 64, 66, 170, 171] (by decide +kernel) (by decide +kernel)
set_option maxRecDepth 20000 in
theorem gX9_put_X0_isSameAs : GoodIn wsX9_put (wsV RX9 136 RX0 yX0_isSameAs wsX0_isSameAs) := goodIn_app (goodIn_of _ (by decide +kernel)) ggX9_put_X0_isSameAs
set_option maxRecDepth 20000 in
theorem ggX9_put_X9_record : GoodIn wsX9_put wsX9_record := goodIn_r _ [78, 79, 80, 2, 81, 82, 83, 84, 85, 86, 87, 88, 89, 147, 148, 149, 150, 151, 152, 153, 154, 155, 156, 157, 158, 159, 160, 161, 162] (by decide +kernel) (by decide +kernel)
set_option maxRecDepth 20000 in
theorem gX9_put_X9_record : GoodIn wsX9_put (wsV RX9 64 RX9 yX9_record wsX9_record) := goodIn_app (goodIn_of _ (by decide +kernel)) ggX9_put_X9_record
set_option maxRecDepth 20000 in
theorem ggX9_put_X9_stagesOf_h : GoodIn wsX9_put [Cond.code yX9_stagesOf cX9_stagesOf 2 (some .int)] := goodIn_r _ [93] (by decide +kernel) (by decide +kernel)
set_option maxRecDepth 20000 in
theorem ggX9_put_X9_stagesOf_0 : GoodIn wsX9_put wsX9_stagesOf_r1 := goodIn_r _ [94, 2, 3, 95, 96, 97, 98, 99, 100, 101, 102, 103, 6, 104, 105, 106, 107, 108, 109, 110, 111, 37, 38, 39] (by decide +kernel) (by decide +kernel)
set_option maxRecDepth 20000 in
theorem ggX9_put_X9_stagesOf_1 : GoodIn wsX9_put wsX9_stagesOf_r2 := goodIn_r _ [112, 113, 114, 115, 116, 117, 118, 119, 120, 121, 122, 123, 124, 125, 126, 127, 128, 84, 129, 130, 131, 132, 133, 134] (by decide +kernel) (by decide +kernel)
set_option maxRecDepth 20000 in
theorem ggX9_put_X9_stagesOf_2 : GoodIn wsX9_put wsX9_stagesOf_r3 := goodIn_r _ [135, 136, 137, 138, 86, 88, 139, 140, 141, 142, 143, 144, 145, 146, 87] (by decide +kernel) (by decide +kernel)
set_option maxRecDepth 20000 in
theorem ggX9_put_X9_stagesOf_3 : GoodIn wsX9_put wsX90 := goodIn_r _ [147, 148, 149, 150, 151, 152, 153, 154, 155] (by decide +kernel) (by decide +kernel)
set_option maxRecDepth 20000 in
theorem ggX9_put_X9_stagesOf_4 : GoodIn wsX9_put wsX70 := goodIn_r _ [156, 157, 158, 159, 160, 161, 162] (by decide +kernel) (by decide +kernel)
set_option maxRecDepth 20000 in
theorem ggX9_put_X9_stagesOf_5 : GoodIn wsX9_put wsX40 := goodIn_r _ [172, 173, 174, 175, 176, 177, 178, 179] (by decide +kernel) (by decide +kernel)
set_option maxRecDepth 20000 in
theorem ggX9_put_X9_stagesOf_6 : GoodIn wsX9_put wsX00 := goodIn_r _ [170, 171] (by decide +kernel) (by decide +kernel)
theorem ggX9_put_X9_stagesOf : GoodIn wsX9_put wsX9_stagesOf := goodIn_app ggX9_put_X9_stagesOf_h (goodIn_app (goodIn_app (goodIn_app (goodIn_app (goodIn_app ggX9_put_X9_stagesOf_0 (goodIn_app ggX9_put_X9_stagesOf_1 ggX9_put_X9_stagesOf_2)) ggX9_put_X9_stagesOf_3) ggX9_put_X9_stagesOf_4) ggX9_put_X9_stagesOf_5) ggX9_put_X9_stagesOf_6)
set_option maxRecDepth 20000 in
theorem gX9_put_X9_stagesOf : GoodIn wsX9_put (wsV RX9 146 RX9 yX9_stagesOf wsX9_stagesOf) := goodIn_app (goodIn_of _ (by decide +kernel)) ggX9_put_X9_stagesOf
theorem dX9_put_0 : decode cX9_put 0 = .ok (.iload_n 1, 1) := by decide +kernel
theorem dX9_put_1 : decode cX9_put 1 = .ok (.invokestatic 122, 3) := by decide +kernel
theorem dX9_put_4 : decode cX9_put 4 = .ok (.ifCond .ne 5, 3) := by decide +kernel
theorem dX9_put_7 : decode cX9_put 7 = .ok (.iconst (-1), 1) := by decide +kernel
theorem dX9_put_8 : decode cX9_put 8 = .ok (.ireturn, 1) := by decide +kernel
theorem dX9_put_9 : decode cX9_put 9 = .ok (.aload_n 0, 1) := by decide +kernel
theorem dX9_put_10 : decode cX9_put 10 = .ok (.getfield 34, 3) := by decide +kernel
theorem dX9_put_13 : decode cX9_put 13 = .ok (.invokevirtual 125, 3) := by decide +kernel
theorem dX9_put_16 : decode cX9_put 16 = .ok (.istore_n 2, 1) := by decide +kernel
theorem dX9_put_17 : decode cX9_put 17 = .ok (.iload_n 2, 1) := by decide +kernel
theorem dX9_put_18 : decode cX9_put 18 = .ok (.ifCond .lt 8, 3) := by decide +kernel
theorem dX9_put_21 : decode cX9_put 21 = .ok (.bipush (-100), 2) := by decide +kernel
theorem dX9_put_23 : decode cX9_put 23 = .ok (.iload_n 2, 1) := by decide +kernel
theorem dX9_put_24 : decode cX9_put 24 = .ok (.isub, 1) := by decide +kernel
theorem dX9_put_25 : decode cX9_put 25 = .ok (.ireturn, 1) := by decide +kernel
theorem dX9_put_26 : decode cX9_put 26 = .ok (.aload_n 0, 1) := by decide +kernel
theorem dX9_put_27 : decode cX9_put 27 = .ok (.getfield 34, 3) := by decide +kernel
theorem dX9_put_30 : decode cX9_put 30 = .ok (.invokevirtual 128, 3) := by decide +kernel
theorem dX9_put_33 : decode cX9_put 33 = .ok (.astore_n 3, 1) := by decide +kernel
theorem dX9_put_34 : decode cX9_put 34 = .ok (.aload_n 0, 1) := by decide +kernel
theorem dX9_put_35 : decode cX9_put 35 = .ok (.iload_n 1, 1) := by decide +kernel
theorem dX9_put_36 : decode cX9_put 36 = .ok (.invokevirtual 132, 3) := by decide +kernel
theorem dX9_put_39 : decode cX9_put 39 = .ok (.astore 4, 2) := by decide +kernel
theorem dX9_put_41 : decode cX9_put 41 = .ok (.aload 4, 2) := by decide +kernel
theorem dX9_put_43 : decode cX9_put 43 = .ok (.ifnull 15, 3) := by decide +kernel
theorem dX9_put_46 : decode cX9_put 46 = .ok (.aload_n 3, 1) := by decide +kernel
theorem dX9_put_47 : decode cX9_put 47 = .ok (.aload 4, 2) := by decide +kernel
theorem dX9_put_49 : decode cX9_put 49 = .ok (.invokevirtual 136, 3) := by decide +kernel
theorem dX9_put_52 : decode cX9_put 52 = .ok (.ifCond .eq 6, 3) := by decide +kernel
theorem dX9_put_55 : decode cX9_put 55 = .ok (.bipush (-5), 2) := by decide +kernel
theorem dX9_put_57 : decode cX9_put 57 = .ok (.ireturn, 1) := by decide +kernel
theorem dX9_put_58 : decode cX9_put 58 = .ok (.aload_n 0, 1) := by decide +kernel
theorem dX9_put_59 : decode cX9_put 59 = .ok (.invokevirtual 64, 3) := by decide +kernel
theorem dX9_put_62 : decode cX9_put 62 = .ok (.aload_n 0, 1) := by decide +kernel
theorem dX9_put_63 : decode cX9_put 63 = .ok (.getfield 10, 3) := by decide +kernel
theorem dX9_put_66 : decode cX9_put 66 = .ok (.getfield 142, 3) := by decide +kernel
theorem dX9_put_69 : decode cX9_put 69 = .ok (.iload_n 1, 1) := by decide +kernel
theorem dX9_put_70 : decode cX9_put 70 = .ok (.aload_n 3, 1) := by decide +kernel
theorem dX9_put_71 : decode cX9_put 71 = .ok (.aastore, 1) := by decide +kernel
theorem dX9_put_72 : decode cX9_put 72 = .ok (.aload_n 0, 1) := by decide +kernel
theorem dX9_put_73 : decode cX9_put 73 = .ok (.iload_n 1, 1) := by decide +kernel
theorem dX9_put_74 : decode cX9_put 74 = .ok (.invokevirtual 146, 3) := by decide +kernel
theorem dX9_put_77 : decode cX9_put 77 = .ok (.ireturn, 1) := by decide +kernel
set_option maxRecDepth 20000 in
theorem ggX9_drop_X9_claimAt : GoodIn wsX9_drop wsX9_claimAt := goodIn_r _ [7, 1, 2, 8, 9, 6, 10, 37, 38, 39, 40, 41, 42, 43, 44, 45, 46, 47, 48, 49, 50, 51, 52] (by decide +kernel) (by decide +kernel)
set_option maxRecDepth 20000 in
theorem gX9_drop_X9_claimAt : GoodIn wsX9_drop (wsV RX9 132 RX9 yX9_claimAt wsX9_claimAt) := goodIn_app (goodIn_of _ (by decide +kernel)) ggX9_drop_X9_claimAt
set_option maxRecDepth 20000 in
theorem ggX9_drop_X9_record : GoodIn wsX9_drop wsX9_record := goodIn_r _ [14, 15, 16, 1, 17, 18, 19, 20, 21, 22, 23, 24, 25, 37, 38, 39, 40, 41, 42, 43, 44, 45, 46, 47, 48, 49, 50, 51, 52] (by decide +kernel) (by decide +kernel)
set_option maxRecDepth 20000 in
theorem gX9_drop_X9_record : GoodIn wsX9_drop (wsV RX9 64 RX9 yX9_record wsX9_record) := goodIn_app (goodIn_of _ (by decide +kernel)) ggX9_drop_X9_record
set_option maxRecDepth 20000 in
theorem ggX9_drop_X7_filledPlaces : GoodIn wsX9_drop wsX7_filledPlaces := goodIn_r _ [29, 25, 46, 47, 48, 49, 50, 51, 52] (by decide +kernel) (by decide +kernel)
set_option maxRecDepth 20000 in
theorem gX9_drop_X7_filledPlaces : GoodIn wsX9_drop (wsV RX9 149 RX7 yX7_filledPlaces wsX7_filledPlaces) := goodIn_app (goodIn_of _ (by decide +kernel)) ggX9_drop_X7_filledPlaces
set_option maxRecDepth 20000 in
theorem ggX9_drop_J6_bitCount_0f7a4 : GoodIn wsX9_drop wsJ6_bitCount_0f7a4 := goodIn_r _ [33, 34, 35, 36] (by decide +kernel) (by decide +kernel)
set_option maxRecDepth 20000 in
theorem gX9_drop_J6_bitCount_0f7a4 : GoodIn wsX9_drop (va_wsS RX9 152 yJ6_bitCount_0f7a4 wsJ6_bitCount_0f7a4) := goodIn_app (goodIn_of _ (by decide +kernel)) ggX9_drop_J6_bitCount_0f7a4
theorem dX9_drop_0 : decode cX9_drop 0 = .ok (.aload_n 0, 1) := by decide +kernel
theorem dX9_drop_1 : decode cX9_drop 1 = .ok (.iload_n 1, 1) := by decide +kernel
theorem dX9_drop_2 : decode cX9_drop 2 = .ok (.invokevirtual 132, 3) := by decide +kernel
theorem dX9_drop_5 : decode cX9_drop 5 = .ok (.ifnonnull 5, 3) := by decide +kernel
theorem dX9_drop_8 : decode cX9_drop 8 = .ok (.iconst (-1), 1) := by decide +kernel
theorem dX9_drop_9 : decode cX9_drop 9 = .ok (.ireturn, 1) := by decide +kernel
theorem dX9_drop_10 : decode cX9_drop 10 = .ok (.aload_n 0, 1) := by decide +kernel
theorem dX9_drop_11 : decode cX9_drop 11 = .ok (.invokevirtual 64, 3) := by decide +kernel
theorem dX9_drop_14 : decode cX9_drop 14 = .ok (.aload_n 0, 1) := by decide +kernel
theorem dX9_drop_15 : decode cX9_drop 15 = .ok (.getfield 10, 3) := by decide +kernel
theorem dX9_drop_18 : decode cX9_drop 18 = .ok (.getfield 142, 3) := by decide +kernel
theorem dX9_drop_21 : decode cX9_drop 21 = .ok (.iload_n 1, 1) := by decide +kernel
theorem dX9_drop_22 : decode cX9_drop 22 = .ok (.aconst_null, 1) := by decide +kernel
theorem dX9_drop_23 : decode cX9_drop 23 = .ok (.aastore, 1) := by decide +kernel
theorem dX9_drop_24 : decode cX9_drop 24 = .ok (.aload_n 0, 1) := by decide +kernel
theorem dX9_drop_25 : decode cX9_drop 25 = .ok (.getfield 10, 3) := by decide +kernel
theorem dX9_drop_28 : decode cX9_drop 28 = .ok (.invokevirtual 149, 3) := by decide +kernel
theorem dX9_drop_31 : decode cX9_drop 31 = .ok (.invokestatic 152, 3) := by decide +kernel
theorem dX9_drop_34 : decode cX9_drop 34 = .ok (.ireturn, 1) := by decide +kernel
set_option maxRecDepth 20000 in
theorem ggX9_join_X9_claimAt : GoodIn wsX9_join wsX9_claimAt := goodIn_r _ [8, 2, 3, 9, 10, 7, 11, 108, 109, 110, 111, 112, 113, 114, 115, 116, 117, 118, 119, 120, 121, 122, 123] (by decide +kernel) (by decide +kernel)
set_option maxRecDepth 20000 in
theorem gX9_join_X9_claimAt : GoodIn wsX9_join (wsV RX9 132 RX9 yX9_claimAt wsX9_claimAt) := goodIn_app (goodIn_of _ (by decide +kernel)) ggX9_join_X9_claimAt
set_option maxRecDepth 20000 in
theorem ggX9_join_X9_isPlace : GoodIn wsX9_join wsX9_isPlace := goodIn_r _ [11] (by decide +kernel) (by decide +kernel)
set_option maxRecDepth 20000 in
theorem gX9_join_X9_isPlace : GoodIn wsX9_join (va_wsS RX9 122 yX9_isPlace wsX9_isPlace) := goodIn_app (goodIn_of _ (by decide +kernel)) ggX9_join_X9_isPlace
set_option maxRecDepth 20000 in
theorem ggX9_join_X0_joined : GoodIn wsX9_join wsX0_joined := goodIn_r _ [15, 16, 17, 18, 19, 20, 14, 21, 22, 23, 24, 25, 26, 27, 28, 29, 30, 31, 32, 33, 106, 107] (by decide +kernel) (by decide +kernel)
set_option maxRecDepth 20000 in
theorem gX9_join_X0_joined : GoodIn wsX9_join (va_wsS RX9 160 yX0_joined wsX0_joined) := goodIn_app (goodIn_of _ (by decide +kernel)) ggX9_join_X0_joined
set_option maxRecDepth 20000 in
theorem ggX9_join_X9_record : GoodIn wsX9_join wsX9_record := goodIn_r _ [37, 38, 39, 2, 40, 41, 42, 43, 44, 45, 46, 47, 48, 108, 109, 110, 111, 112, 113, 114, 115, 116, 117, 118, 119, 120, 121, 122, 123] (by decide +kernel) (by decide +kernel)
set_option maxRecDepth 20000 in
theorem gX9_join_X9_record : GoodIn wsX9_join (wsV RX9 64 RX9 yX9_record wsX9_record) := goodIn_app (goodIn_of _ (by decide +kernel)) ggX9_join_X9_record
set_option maxRecDepth 20000 in
theorem ggX9_join_X9_stagesOf_h : GoodIn wsX9_join [Cond.code yX9_stagesOf cX9_stagesOf 2 (some .int)] := goodIn_r _ [52] (by decide +kernel) (by decide +kernel)
set_option maxRecDepth 20000 in
theorem ggX9_join_X9_stagesOf_0 : GoodIn wsX9_join wsX9_stagesOf_r1 := goodIn_r _ [53, 2, 3, 54, 55, 56, 57, 58, 59, 60, 61, 62, 7, 63, 64, 65, 66, 67, 68, 69, 70, 32, 29, 33] (by decide +kernel) (by decide +kernel)
set_option maxRecDepth 20000 in
theorem ggX9_join_X9_stagesOf_1 : GoodIn wsX9_join wsX9_stagesOf_r2 := goodIn_r _ [71, 72, 73, 74, 75, 76, 77, 78, 79, 80, 81, 82, 83, 84, 85, 86, 87, 43, 88, 89, 90, 91, 92, 93] (by decide +kernel) (by decide +kernel)
set_option maxRecDepth 20000 in
theorem ggX9_join_X9_stagesOf_2 : GoodIn wsX9_join wsX9_stagesOf_r3 := goodIn_r _ [94, 95, 96, 97, 45, 47, 98, 99, 100, 101, 102, 103, 104, 105, 46] (by decide +kernel) (by decide +kernel)
set_option maxRecDepth 20000 in
theorem ggX9_join_X9_stagesOf_3 : GoodIn wsX9_join wsX90 := goodIn_r _ [108, 109, 110, 111, 112, 113, 114, 115, 116] (by decide +kernel) (by decide +kernel)
set_option maxRecDepth 20000 in
theorem ggX9_join_X9_stagesOf_4 : GoodIn wsX9_join wsX70 := goodIn_r _ [117, 118, 119, 120, 121, 122, 123] (by decide +kernel) (by decide +kernel)
set_option maxRecDepth 20000 in
theorem ggX9_join_X9_stagesOf_5 : GoodIn wsX9_join wsX40 := goodIn_r _ [124, 125, 126, 127, 128, 129, 130, 131] (by decide +kernel) (by decide +kernel)
set_option maxRecDepth 20000 in
theorem ggX9_join_X9_stagesOf_6 : GoodIn wsX9_join wsX00 := goodIn_r _ [106, 107] (by decide +kernel) (by decide +kernel)
theorem ggX9_join_X9_stagesOf : GoodIn wsX9_join wsX9_stagesOf := goodIn_app ggX9_join_X9_stagesOf_h (goodIn_app (goodIn_app (goodIn_app (goodIn_app (goodIn_app ggX9_join_X9_stagesOf_0 (goodIn_app ggX9_join_X9_stagesOf_1 ggX9_join_X9_stagesOf_2)) ggX9_join_X9_stagesOf_3) ggX9_join_X9_stagesOf_4) ggX9_join_X9_stagesOf_5) ggX9_join_X9_stagesOf_6)
set_option maxRecDepth 20000 in
theorem gX9_join_X9_stagesOf : GoodIn wsX9_join (wsV RX9 146 RX9 yX9_stagesOf wsX9_stagesOf) := goodIn_app (goodIn_of _ (by decide +kernel)) ggX9_join_X9_stagesOf
theorem dX9_join_0 : decode cX9_join 0 = .ok (.aload_n 0, 1) := by decide +kernel
theorem dX9_join_1 : decode cX9_join 1 = .ok (.iload_n 2, 1) := by decide +kernel
theorem dX9_join_2 : decode cX9_join 2 = .ok (.invokevirtual 132, 3) := by decide +kernel
theorem dX9_join_5 : decode cX9_join 5 = .ok (.astore 5, 2) := by decide +kernel
theorem dX9_join_7 : decode cX9_join 7 = .ok (.aload_n 0, 1) := by decide +kernel
theorem dX9_join_8 : decode cX9_join 8 = .ok (.iload 4, 2) := by decide +kernel
theorem dX9_join_10 : decode cX9_join 10 = .ok (.invokevirtual 132, 3) := by decide +kernel
theorem dX9_join_13 : decode cX9_join 13 = .ok (.astore 6, 2) := by decide +kernel
theorem dX9_join_15 : decode cX9_join 15 = .ok (.iload_n 1, 1) := by decide +kernel
theorem dX9_join_16 : decode cX9_join 16 = .ok (.invokestatic 122, 3) := by decide +kernel
theorem dX9_join_19 : decode cX9_join 19 = .ok (.ifCond .eq 13, 3) := by decide +kernel
theorem dX9_join_22 : decode cX9_join 22 = .ok (.aload 5, 2) := by decide +kernel
theorem dX9_join_24 : decode cX9_join 24 = .ok (.ifnull 8, 3) := by decide +kernel
theorem dX9_join_27 : decode cX9_join 27 = .ok (.aload 6, 2) := by decide +kernel
theorem dX9_join_29 : decode cX9_join 29 = .ok (.ifnonnull 5, 3) := by decide +kernel
theorem dX9_join_32 : decode cX9_join 32 = .ok (.iconst (-1), 1) := by decide +kernel
theorem dX9_join_33 : decode cX9_join 33 = .ok (.ireturn, 1) := by decide +kernel
theorem dX9_join_34 : decode cX9_join 34 = .ok (.iload_n 3, 1) := by decide +kernel
theorem dX9_join_35 : decode cX9_join 35 = .ok (.ifCond .lt 8, 3) := by decide +kernel
theorem dX9_join_38 : decode cX9_join 38 = .ok (.iload_n 3, 1) := by decide +kernel
theorem dX9_join_39 : decode cX9_join 39 = .ok (.iconst 2, 1) := by decide +kernel
theorem dX9_join_40 : decode cX9_join 40 = .ok (.if_icmp .le 6, 3) := by decide +kernel
theorem dX9_join_43 : decode cX9_join 43 = .ok (.bipush (-2), 2) := by decide +kernel
theorem dX9_join_45 : decode cX9_join 45 = .ok (.ireturn, 1) := by decide +kernel
theorem dX9_join_46 : decode cX9_join 46 = .ok (.aload 5, 2) := by decide +kernel
theorem dX9_join_48 : decode cX9_join 48 = .ok (.getfield 157, 3) := by decide +kernel
theorem dX9_join_51 : decode cX9_join 51 = .ok (.aload 6, 2) := by decide +kernel
theorem dX9_join_53 : decode cX9_join 53 = .ok (.getfield 157, 3) := by decide +kernel
theorem dX9_join_56 : decode cX9_join 56 = .ok (.iadd, 1) := by decide +kernel
theorem dX9_join_57 : decode cX9_join 57 = .ok (.iconst 1, 1) := by decide +kernel
theorem dX9_join_58 : decode cX9_join 58 = .ok (.iadd, 1) := by decide +kernel
theorem dX9_join_59 : decode cX9_join 59 = .ok (.bipush 24, 2) := by decide +kernel
theorem dX9_join_61 : decode cX9_join 61 = .ok (.if_icmp .le 6, 3) := by decide +kernel
theorem dX9_join_64 : decode cX9_join 64 = .ok (.bipush (-4), 2) := by decide +kernel
theorem dX9_join_66 : decode cX9_join 66 = .ok (.ireturn, 1) := by decide +kernel
theorem dX9_join_67 : decode cX9_join 67 = .ok (.aload 5, 2) := by decide +kernel
theorem dX9_join_69 : decode cX9_join 69 = .ok (.aload 6, 2) := by decide +kernel
theorem dX9_join_71 : decode cX9_join 71 = .ok (.bipush 7, 2) := by decide +kernel
theorem dX9_join_73 : decode cX9_join 73 = .ok (.iload_n 3, 1) := by decide +kernel
theorem dX9_join_74 : decode cX9_join 74 = .ok (.iadd, 1) := by decide +kernel
theorem dX9_join_75 : decode cX9_join 75 = .ok (.invokestatic 160, 3) := by decide +kernel
theorem dX9_join_78 : decode cX9_join 78 = .ok (.astore 7, 2) := by decide +kernel
theorem dX9_join_80 : decode cX9_join 80 = .ok (.aload_n 0, 1) := by decide +kernel
theorem dX9_join_81 : decode cX9_join 81 = .ok (.invokevirtual 64, 3) := by decide +kernel
theorem dX9_join_84 : decode cX9_join 84 = .ok (.aload_n 0, 1) := by decide +kernel
theorem dX9_join_85 : decode cX9_join 85 = .ok (.getfield 10, 3) := by decide +kernel
theorem dX9_join_88 : decode cX9_join 88 = .ok (.getfield 142, 3) := by decide +kernel
theorem dX9_join_91 : decode cX9_join 91 = .ok (.iload_n 1, 1) := by decide +kernel
theorem dX9_join_92 : decode cX9_join 92 = .ok (.aload 7, 2) := by decide +kernel
theorem dX9_join_94 : decode cX9_join 94 = .ok (.aastore, 1) := by decide +kernel
theorem dX9_join_95 : decode cX9_join 95 = .ok (.aload_n 0, 1) := by decide +kernel
theorem dX9_join_96 : decode cX9_join 96 = .ok (.iload_n 1, 1) := by decide +kernel
theorem dX9_join_97 : decode cX9_join 97 = .ok (.invokevirtual 146, 3) := by decide +kernel
theorem dX9_join_100 : decode cX9_join 100 = .ok (.ireturn, 1) := by decide +kernel
set_option maxRecDepth 20000 in
theorem ggX9_type_X8_append : GoodIn wsX9_type wsX8_append := goodIn_r _ [7, 8, 9, 10, 11, 6, 12, 22, 23, 24, 25, 26, 27, 28] (by decide +kernel) (by decide +kernel)
set_option maxRecDepth 20000 in
theorem gX9_type_X8_append : GoodIn wsX9_type (wsV RX9 167 RX8 yX8_append wsX8_append) := goodIn_app (goodIn_of _ (by decide +kernel)) ggX9_type_X8_append
theorem dX9_type_0 : decode cX9_type 0 = .ok (.aload_n 0, 1) := by decide +kernel
theorem dX9_type_1 : decode cX9_type 1 = .ok (.getfield 34, 3) := by decide +kernel
theorem dX9_type_4 : decode cX9_type 4 = .ok (.getfield 164, 3) := by decide +kernel
theorem dX9_type_7 : decode cX9_type 7 = .ok (.bipush 30, 2) := by decide +kernel
theorem dX9_type_9 : decode cX9_type 9 = .ok (.if_icmp .lt 6, 3) := by decide +kernel
theorem dX9_type_12 : decode cX9_type 12 = .ok (.bipush (-3), 2) := by decide +kernel
theorem dX9_type_14 : decode cX9_type 14 = .ok (.ireturn, 1) := by decide +kernel
theorem dX9_type_15 : decode cX9_type 15 = .ok (.aload_n 0, 1) := by decide +kernel
theorem dX9_type_16 : decode cX9_type 16 = .ok (.getfield 34, 3) := by decide +kernel
theorem dX9_type_19 : decode cX9_type 19 = .ok (.iload_n 1, 1) := by decide +kernel
theorem dX9_type_20 : decode cX9_type 20 = .ok (.invokevirtual 167, 3) := by decide +kernel
theorem dX9_type_23 : decode cX9_type 23 = .ok (.aload_n 0, 1) := by decide +kernel
theorem dX9_type_24 : decode cX9_type 24 = .ok (.getfield 34, 3) := by decide +kernel
theorem dX9_type_27 : decode cX9_type 27 = .ok (.getfield 164, 3) := by decide +kernel
theorem dX9_type_30 : decode cX9_type 30 = .ok (.ireturn, 1) := by decide +kernel
theorem dX9_clearText_0 : decode cX9_clearText 0 = .ok (.aload_n 0, 1) := by decide +kernel
theorem dX9_clearText_1 : decode cX9_clearText 1 = .ok (.getfield 34, 3) := by decide +kernel
theorem dX9_clearText_4 : decode cX9_clearText 4 = .ok (.getfield 164, 3) := by decide +kernel
theorem dX9_clearText_7 : decode cX9_clearText 7 = .ok (.istore_n 1, 1) := by decide +kernel
theorem dX9_clearText_8 : decode cX9_clearText 8 = .ok (.aload_n 0, 1) := by decide +kernel
theorem dX9_clearText_9 : decode cX9_clearText 9 = .ok (.getfield 34, 3) := by decide +kernel
theorem dX9_clearText_12 : decode cX9_clearText 12 = .ok (.iconst 0, 1) := by decide +kernel
theorem dX9_clearText_13 : decode cX9_clearText 13 = .ok (.putfield 164, 3) := by decide +kernel
theorem dX9_clearText_16 : decode cX9_clearText 16 = .ok (.iload_n 1, 1) := by decide +kernel
theorem dX9_clearText_17 : decode cX9_clearText 17 = .ok (.ireturn, 1) := by decide +kernel
set_option maxRecDepth 20000 in
theorem ggX9_undo_X7_takeFrom : GoodIn wsX9_undo wsX7_takeFrom := goodIn_r _ [8, 9, 10, 11, 12, 22, 23, 24, 25, 26, 27, 28] (by decide +kernel) (by decide +kernel)
set_option maxRecDepth 20000 in
theorem gX9_undo_X7_takeFrom : GoodIn wsX9_undo (wsV RX9 171 RX7 yX7_takeFrom wsX7_takeFrom) := goodIn_app (goodIn_of _ (by decide +kernel)) ggX9_undo_X7_takeFrom
theorem dX9_undo_0 : decode cX9_undo 0 = .ok (.aload_n 0, 1) := by decide +kernel
theorem dX9_undo_1 : decode cX9_undo 1 = .ok (.getfield 20, 3) := by decide +kernel
theorem dX9_undo_4 : decode cX9_undo 4 = .ok (.ifCond .le 11, 3) := by decide +kernel
theorem dX9_undo_7 : decode cX9_undo 7 = .ok (.aload_n 0, 1) := by decide +kernel
theorem dX9_undo_8 : decode cX9_undo 8 = .ok (.getfield 20, 3) := by decide +kernel
theorem dX9_undo_11 : decode cX9_undo 11 = .ok (.iconst 4, 1) := by decide +kernel
theorem dX9_undo_12 : decode cX9_undo 12 = .ok (.if_icmp .le 6, 3) := by decide +kernel
theorem dX9_undo_15 : decode cX9_undo 15 = .ok (.bipush (-5), 2) := by decide +kernel
theorem dX9_undo_17 : decode cX9_undo 17 = .ok (.ireturn, 1) := by decide +kernel
theorem dX9_undo_18 : decode cX9_undo 18 = .ok (.aload_n 0, 1) := by decide +kernel
theorem dX9_undo_19 : decode cX9_undo 19 = .ok (.dup, 1) := by decide +kernel
theorem dX9_undo_20 : decode cX9_undo 20 = .ok (.getfield 20, 3) := by decide +kernel
theorem dX9_undo_23 : decode cX9_undo 23 = .ok (.iconst 1, 1) := by decide +kernel
theorem dX9_undo_24 : decode cX9_undo 24 = .ok (.isub, 1) := by decide +kernel
theorem dX9_undo_25 : decode cX9_undo 25 = .ok (.putfield 20, 3) := by decide +kernel
theorem dX9_undo_28 : decode cX9_undo 28 = .ok (.aload_n 0, 1) := by decide +kernel
theorem dX9_undo_29 : decode cX9_undo 29 = .ok (.getfield 10, 3) := by decide +kernel
theorem dX9_undo_32 : decode cX9_undo 32 = .ok (.aload_n 0, 1) := by decide +kernel
theorem dX9_undo_33 : decode cX9_undo 33 = .ok (.getfield 16, 3) := by decide +kernel
theorem dX9_undo_36 : decode cX9_undo 36 = .ok (.aload_n 0, 1) := by decide +kernel
theorem dX9_undo_37 : decode cX9_undo 37 = .ok (.getfield 20, 3) := by decide +kernel
theorem dX9_undo_40 : decode cX9_undo 40 = .ok (.aaload, 1) := by decide +kernel
theorem dX9_undo_41 : decode cX9_undo 41 = .ok (.invokevirtual 171, 3) := by decide +kernel
theorem dX9_undo_44 : decode cX9_undo 44 = .ok (.aload_n 0, 1) := by decide +kernel
theorem dX9_undo_45 : decode cX9_undo 45 = .ok (.getfield 20, 3) := by decide +kernel
theorem dX9_undo_48 : decode cX9_undo 48 = .ok (.ireturn, 1) := by decide +kernel
set_option maxRecDepth 20000 in
theorem ggX9_keep_X7_takeFrom : GoodIn wsX9_keep wsX7_takeFrom := goodIn_r _ [9, 10, 11, 12, 13, 23, 24, 25, 26, 27, 28, 29] (by decide +kernel) (by decide +kernel)
set_option maxRecDepth 20000 in
theorem gX9_keep_X7_takeFrom : GoodIn wsX9_keep (wsV RX9 171 RX7 yX7_takeFrom wsX7_takeFrom) := goodIn_app (goodIn_of _ (by decide +kernel)) ggX9_keep_X7_takeFrom
theorem dX9_keep_0 : decode cX9_keep 0 = .ok (.aload_n 0, 1) := by decide +kernel
theorem dX9_keep_1 : decode cX9_keep 1 = .ok (.getfield 24, 3) := by decide +kernel
theorem dX9_keep_4 : decode cX9_keep 4 = .ok (.aload_n 0, 1) := by decide +kernel
theorem dX9_keep_5 : decode cX9_keep 5 = .ok (.getfield 10, 3) := by decide +kernel
theorem dX9_keep_8 : decode cX9_keep 8 = .ok (.invokevirtual 171, 3) := by decide +kernel
theorem dX9_keep_11 : decode cX9_keep 11 = .ok (.aload_n 0, 1) := by decide +kernel
theorem dX9_keep_12 : decode cX9_keep 12 = .ok (.iconst 1, 1) := by decide +kernel
theorem dX9_keep_13 : decode cX9_keep 13 = .ok (.putfield 27, 3) := by decide +kernel
theorem dX9_keep_16 : decode cX9_keep 16 = .ok (.aload_n 0, 1) := by decide +kernel
theorem dX9_keep_17 : decode cX9_keep 17 = .ok (.getfield 10, 3) := by decide +kernel
theorem dX9_keep_20 : decode cX9_keep 20 = .ok (.getfield 61, 3) := by decide +kernel
theorem dX9_keep_23 : decode cX9_keep 23 = .ok (.ireturn, 1) := by decide +kernel
set_option maxRecDepth 20000 in
theorem ggX9_restore_X9_record : GoodIn wsX9_restore wsX9_record := goodIn_r _ [9, 10, 11, 2, 12, 13, 14, 15, 16, 17, 18, 19, 20, 21, 22, 23, 24, 25, 26, 27, 28, 29, 30, 31, 32, 33, 34, 35, 36] (by decide +kernel) (by decide +kernel)
set_option maxRecDepth 20000 in
theorem gX9_restore_X9_record : GoodIn wsX9_restore (wsV RX9 64 RX9 yX9_record wsX9_record) := goodIn_app (goodIn_of _ (by decide +kernel)) ggX9_restore_X9_record
set_option maxRecDepth 20000 in
theorem ggX9_restore_X7_takeFrom : GoodIn wsX9_restore wsX7_takeFrom := goodIn_r _ [16, 17, 18, 19, 20, 30, 31, 32, 33, 34, 35, 36] (by decide +kernel) (by decide +kernel)
set_option maxRecDepth 20000 in
theorem gX9_restore_X7_takeFrom : GoodIn wsX9_restore (wsV RX9 171 RX7 yX7_takeFrom wsX7_takeFrom) := goodIn_app (goodIn_of _ (by decide +kernel)) ggX9_restore_X7_takeFrom
theorem dX9_restore_0 : decode cX9_restore 0 = .ok (.aload_n 0, 1) := by decide +kernel
theorem dX9_restore_1 : decode cX9_restore 1 = .ok (.getfield 27, 3) := by decide +kernel
theorem dX9_restore_4 : decode cX9_restore 4 = .ok (.ifCond .ne 6, 3) := by decide +kernel
theorem dX9_restore_7 : decode cX9_restore 7 = .ok (.bipush (-5), 2) := by decide +kernel
theorem dX9_restore_9 : decode cX9_restore 9 = .ok (.ireturn, 1) := by decide +kernel
theorem dX9_restore_10 : decode cX9_restore 10 = .ok (.aload_n 0, 1) := by decide +kernel
theorem dX9_restore_11 : decode cX9_restore 11 = .ok (.invokevirtual 64, 3) := by decide +kernel
theorem dX9_restore_14 : decode cX9_restore 14 = .ok (.aload_n 0, 1) := by decide +kernel
theorem dX9_restore_15 : decode cX9_restore 15 = .ok (.getfield 10, 3) := by decide +kernel
theorem dX9_restore_18 : decode cX9_restore 18 = .ok (.aload_n 0, 1) := by decide +kernel
theorem dX9_restore_19 : decode cX9_restore 19 = .ok (.getfield 24, 3) := by decide +kernel
theorem dX9_restore_22 : decode cX9_restore 22 = .ok (.invokevirtual 171, 3) := by decide +kernel
theorem dX9_restore_25 : decode cX9_restore 25 = .ok (.aload_n 0, 1) := by decide +kernel
theorem dX9_restore_26 : decode cX9_restore 26 = .ok (.getfield 10, 3) := by decide +kernel
theorem dX9_restore_29 : decode cX9_restore 29 = .ok (.getfield 61, 3) := by decide +kernel
theorem dX9_restore_32 : decode cX9_restore 32 = .ok (.ireturn, 1) := by decide +kernel
set_option maxRecDepth 20000 in
theorem ggX9_stage_X7_isStage : GoodIn wsX9_stage wsX7_isStage := goodIn_r _ [9, 10, 43, 44, 45, 46, 47, 48, 49] (by decide +kernel) (by decide +kernel)
set_option maxRecDepth 20000 in
theorem gX9_stage_X7_isStage : GoodIn wsX9_stage (wsV RX9 57 RX7 yX7_isStage wsX7_isStage) := goodIn_app (goodIn_of _ (by decide +kernel)) ggX9_stage_X7_isStage
set_option maxRecDepth 20000 in
theorem ggX9_stage_X7_earlier : GoodIn wsX9_stage wsX7_earlier := goodIn_r _ [14, 10, 15, 43, 44, 45, 46, 47, 48, 49] (by decide +kernel) (by decide +kernel)
set_option maxRecDepth 20000 in
theorem gX9_stage_X7_earlier : GoodIn wsX9_stage (wsV RX9 99 RX7 yX7_earlier wsX7_earlier) := goodIn_app (goodIn_of _ (by decide +kernel)) ggX9_stage_X7_earlier
set_option maxRecDepth 20000 in
theorem ggX9_stage_X7_findLikes : GoodIn wsX9_stage wsX7_findLikes := goodIn_r _ [19, 10, 20, 21, 22, 15, 23, 24, 25, 8, 26, 27, 28, 29, 30, 31, 32, 33, 43, 44, 45, 46, 47, 48, 49] (by decide +kernel) (by decide +kernel)
set_option maxRecDepth 20000 in
theorem gX9_stage_X7_findLikes : GoodIn wsX9_stage (wsV RX9 109 RX7 yX7_findLikes wsX7_findLikes) := goodIn_app (goodIn_of _ (by decide +kernel)) ggX9_stage_X7_findLikes
theorem dX9_stage_0 : decode cX9_stage 0 = .ok (.aload_n 0, 1) := by decide +kernel
theorem dX9_stage_1 : decode cX9_stage 1 = .ok (.getfield 10, 3) := by decide +kernel
theorem dX9_stage_4 : decode cX9_stage 4 = .ok (.iload_n 1, 1) := by decide +kernel
theorem dX9_stage_5 : decode cX9_stage 5 = .ok (.invokevirtual 57, 3) := by decide +kernel
theorem dX9_stage_8 : decode cX9_stage 8 = .ok (.ifCond .ne 5, 3) := by decide +kernel
theorem dX9_stage_11 : decode cX9_stage 11 = .ok (.iconst (-1), 1) := by decide +kernel
theorem dX9_stage_12 : decode cX9_stage 12 = .ok (.ireturn, 1) := by decide +kernel
theorem dX9_stage_13 : decode cX9_stage 13 = .ok (.iload_n 2, 1) := by decide +kernel
theorem dX9_stage_14 : decode cX9_stage 14 = .ok (.tableswitch 76 0 3 #[30, 40, 49, 59], 30) := by decide +kernel
theorem dX9_stage_44 : decode cX9_stage 44 = .ok (.aload_n 0, 1) := by decide +kernel
theorem dX9_stage_45 : decode cX9_stage 45 = .ok (.getfield 10, 3) := by decide +kernel
theorem dX9_stage_48 : decode cX9_stage 48 = .ok (.getfield 71, 3) := by decide +kernel
theorem dX9_stage_51 : decode cX9_stage 51 = .ok (.iload_n 1, 1) := by decide +kernel
theorem dX9_stage_52 : decode cX9_stage 52 = .ok (.iaload, 1) := by decide +kernel
theorem dX9_stage_53 : decode cX9_stage 53 = .ok (.ireturn, 1) := by decide +kernel
theorem dX9_stage_54 : decode cX9_stage 54 = .ok (.aload_n 0, 1) := by decide +kernel
theorem dX9_stage_55 : decode cX9_stage 55 = .ok (.getfield 10, 3) := by decide +kernel
theorem dX9_stage_58 : decode cX9_stage 58 = .ok (.iload_n 1, 1) := by decide +kernel
theorem dX9_stage_59 : decode cX9_stage 59 = .ok (.invokevirtual 99, 3) := by decide +kernel
theorem dX9_stage_62 : decode cX9_stage 62 = .ok (.ireturn, 1) := by decide +kernel
theorem dX9_stage_63 : decode cX9_stage 63 = .ok (.aload_n 0, 1) := by decide +kernel
theorem dX9_stage_64 : decode cX9_stage 64 = .ok (.getfield 10, 3) := by decide +kernel
theorem dX9_stage_67 : decode cX9_stage 67 = .ok (.getfield 90, 3) := by decide +kernel
theorem dX9_stage_70 : decode cX9_stage 70 = .ok (.iload_n 1, 1) := by decide +kernel
theorem dX9_stage_71 : decode cX9_stage 71 = .ok (.iaload, 1) := by decide +kernel
theorem dX9_stage_72 : decode cX9_stage 72 = .ok (.ireturn, 1) := by decide +kernel
theorem dX9_stage_73 : decode cX9_stage 73 = .ok (.aload_n 0, 1) := by decide +kernel
theorem dX9_stage_74 : decode cX9_stage 74 = .ok (.getfield 10, 3) := by decide +kernel
theorem dX9_stage_77 : decode cX9_stage 77 = .ok (.invokevirtual 109, 3) := by decide +kernel
theorem dX9_stage_80 : decode cX9_stage 80 = .ok (.aload_n 0, 1) := by decide +kernel
theorem dX9_stage_81 : decode cX9_stage 81 = .ok (.getfield 10, 3) := by decide +kernel
theorem dX9_stage_84 : decode cX9_stage 84 = .ok (.getfield 175, 3) := by decide +kernel
theorem dX9_stage_87 : decode cX9_stage 87 = .ok (.iload_n 1, 1) := by decide +kernel
theorem dX9_stage_88 : decode cX9_stage 88 = .ok (.iaload, 1) := by decide +kernel
theorem dX9_stage_89 : decode cX9_stage 89 = .ok (.ireturn, 1) := by decide +kernel
theorem dX9_stage_90 : decode cX9_stage 90 = .ok (.bipush (-2), 2) := by decide +kernel
theorem dX9_stage_92 : decode cX9_stage 92 = .ok (.ireturn, 1) := by decide +kernel
set_option maxRecDepth 20000 in
theorem ggX9_alike_X7_isStage : GoodIn wsX9_alike wsX7_isStage := goodIn_r _ [7, 8, 40, 41, 42, 43, 44, 45, 46] (by decide +kernel) (by decide +kernel)
set_option maxRecDepth 20000 in
theorem gX9_alike_X7_isStage : GoodIn wsX9_alike (wsV RX9 57 RX7 yX7_isStage wsX7_isStage) := goodIn_app (goodIn_of _ (by decide +kernel)) ggX9_alike_X7_isStage
set_option maxRecDepth 20000 in
theorem ggX9_alike_X7_findLikes : GoodIn wsX9_alike wsX7_findLikes := goodIn_r _ [12, 8, 13, 14, 15, 16, 17, 18, 19, 6, 20, 21, 22, 23, 24, 25, 26, 27, 40, 41, 42, 43, 44, 45, 46] (by decide +kernel) (by decide +kernel)
set_option maxRecDepth 20000 in
theorem gX9_alike_X7_findLikes : GoodIn wsX9_alike (wsV RX9 109 RX7 yX7_findLikes wsX7_findLikes) := goodIn_app (goodIn_of _ (by decide +kernel)) ggX9_alike_X7_findLikes
set_option maxRecDepth 20000 in
theorem ggX9_alike_X9_truth : GoodIn wsX9_alike wsX9_truth := goodIn_r _ [30] (by decide +kernel) (by decide +kernel)
set_option maxRecDepth 20000 in
theorem gX9_alike_X9_truth : GoodIn wsX9_alike (va_wsS RX9 178 yX9_truth wsX9_truth) := goodIn_app (goodIn_of _ (by decide +kernel)) ggX9_alike_X9_truth
theorem dX9_alike_0 : decode cX9_alike 0 = .ok (.aload_n 0, 1) := by decide +kernel
theorem dX9_alike_1 : decode cX9_alike 1 = .ok (.getfield 10, 3) := by decide +kernel
theorem dX9_alike_4 : decode cX9_alike 4 = .ok (.iload_n 1, 1) := by decide +kernel
theorem dX9_alike_5 : decode cX9_alike 5 = .ok (.invokevirtual 57, 3) := by decide +kernel
theorem dX9_alike_8 : decode cX9_alike 8 = .ok (.ifCond .eq 14, 3) := by decide +kernel
theorem dX9_alike_11 : decode cX9_alike 11 = .ok (.aload_n 0, 1) := by decide +kernel
theorem dX9_alike_12 : decode cX9_alike 12 = .ok (.getfield 10, 3) := by decide +kernel
theorem dX9_alike_15 : decode cX9_alike 15 = .ok (.iload_n 2, 1) := by decide +kernel
theorem dX9_alike_16 : decode cX9_alike 16 = .ok (.invokevirtual 57, 3) := by decide +kernel
theorem dX9_alike_19 : decode cX9_alike 19 = .ok (.ifCond .ne 5, 3) := by decide +kernel
theorem dX9_alike_22 : decode cX9_alike 22 = .ok (.iconst (-1), 1) := by decide +kernel
theorem dX9_alike_23 : decode cX9_alike 23 = .ok (.ireturn, 1) := by decide +kernel
theorem dX9_alike_24 : decode cX9_alike 24 = .ok (.aload_n 0, 1) := by decide +kernel
theorem dX9_alike_25 : decode cX9_alike 25 = .ok (.getfield 10, 3) := by decide +kernel
theorem dX9_alike_28 : decode cX9_alike 28 = .ok (.invokevirtual 109, 3) := by decide +kernel
theorem dX9_alike_31 : decode cX9_alike 31 = .ok (.aload_n 0, 1) := by decide +kernel
theorem dX9_alike_32 : decode cX9_alike 32 = .ok (.getfield 10, 3) := by decide +kernel
theorem dX9_alike_35 : decode cX9_alike 35 = .ok (.getfield 175, 3) := by decide +kernel
theorem dX9_alike_38 : decode cX9_alike 38 = .ok (.iload_n 1, 1) := by decide +kernel
theorem dX9_alike_39 : decode cX9_alike 39 = .ok (.iaload, 1) := by decide +kernel
theorem dX9_alike_40 : decode cX9_alike 40 = .ok (.aload_n 0, 1) := by decide +kernel
theorem dX9_alike_41 : decode cX9_alike 41 = .ok (.getfield 10, 3) := by decide +kernel
theorem dX9_alike_44 : decode cX9_alike 44 = .ok (.getfield 175, 3) := by decide +kernel
theorem dX9_alike_47 : decode cX9_alike 47 = .ok (.iload_n 2, 1) := by decide +kernel
theorem dX9_alike_48 : decode cX9_alike 48 = .ok (.iaload, 1) := by decide +kernel
theorem dX9_alike_49 : decode cX9_alike 49 = .ok (.if_icmp .ne 7, 3) := by decide +kernel
theorem dX9_alike_52 : decode cX9_alike 52 = .ok (.iconst 1, 1) := by decide +kernel
theorem dX9_alike_53 : decode cX9_alike 53 = .ok (.goto 4, 3) := by decide +kernel
theorem dX9_alike_56 : decode cX9_alike 56 = .ok (.iconst 0, 1) := by decide +kernel
theorem dX9_alike_57 : decode cX9_alike 57 = .ok (.invokestatic 178, 3) := by decide +kernel
theorem dX9_alike_60 : decode cX9_alike 60 = .ok (.ireturn, 1) := by decide +kernel
set_option maxRecDepth 20000 in
theorem ggX9_claim_X9_claimAt : GoodIn wsX9_claim wsX9_claimAt := goodIn_r _ [10, 1, 11, 12, 13, 9, 14, 345, 346, 347, 348, 349, 350, 351, 352, 353, 356, 357, 358, 359, 360, 361, 362] (by decide +kernel) (by decide +kernel)
set_option maxRecDepth 20000 in
theorem gX9_claim_X9_claimAt : GoodIn wsX9_claim (wsV RX9 132 RX9 yX9_claimAt wsX9_claimAt) := goodIn_app (goodIn_of _ (by decide +kernel)) ggX9_claim_X9_claimAt
set_option maxRecDepth 20000 in
theorem ggX9_claim_X9_lookAt_h : GoodIn wsX9_claim [Cond.code yX9_lookAt cX9_lookAt 2 none] := goodIn_r _ [18] (by decide +kernel) (by decide +kernel)
set_option maxRecDepth 20000 in
theorem ggX9_claim_X9_lookAt_0 : GoodIn wsX9_claim wsX9_lookAt_r1 := goodIn_r _ [2, 1, 11, 5, 4, 19, 20, 21, 22, 23, 24, 25, 26, 27, 9, 28, 29, 30, 31, 32, 33, 34, 35, 36] (by decide +kernel) (by decide +kernel)
set_option maxRecDepth 20000 in
theorem ggX9_claim_X9_lookAt_1 : GoodIn wsX9_claim wsX9_lookAt_r2 := goodIn_r _ [37, 38, 39, 40, 41, 42, 43, 44, 45, 46, 47, 48, 49, 50, 51, 52, 53, 54, 55, 56, 57, 58, 59, 60] (by decide +kernel) (by decide +kernel)
set_option maxRecDepth 20000 in
theorem ggX9_claim_X9_lookAt_2 : GoodIn wsX9_claim wsX9_lookAt_r3 := goodIn_r _ [61, 62, 63, 64, 65, 66, 67, 68, 69, 70, 71, 72, 73, 74, 75, 76, 77, 78, 79, 80] (by decide +kernel) (by decide +kernel)
set_option maxRecDepth 20000 in
theorem ggX9_claim_X9_lookAt_3 : GoodIn wsX9_claim wsX90 := goodIn_r _ [345, 346, 347, 348, 349, 350, 351, 352, 353] (by decide +kernel) (by decide +kernel)
set_option maxRecDepth 20000 in
theorem ggX9_claim_X9_lookAt_4 : GoodIn wsX9_claim wsX70 := goodIn_r _ [356, 357, 358, 359, 360, 361, 362] (by decide +kernel) (by decide +kernel)
set_option maxRecDepth 20000 in
theorem ggX9_claim_X9_lookAt_5 : GoodIn wsX9_claim wsX40 := goodIn_r _ [363, 364, 365, 366, 367, 368, 369, 370] (by decide +kernel) (by decide +kernel)
set_option maxRecDepth 20000 in
theorem ggX9_claim_X9_lookAt_6 : GoodIn wsX9_claim wsX00 := goodIn_r _ [354, 355] (by decide +kernel) (by decide +kernel)
set_option maxRecDepth 20000 in
theorem ggX9_claim_X9_lookAt_7 : GoodIn wsX9_claim wsX60 := goodIn_r _ [371, 372, 373, 374, 375] (by decide +kernel) (by decide +kernel)
set_option maxRecDepth 20000 in
theorem ggX9_claim_X9_lookAt_8 : GoodIn wsX9_claim wsX50 := goodIn_r _ [376, 377, 378, 379, 380, 381, 382, 383, 384, 385] (by decide +kernel) (by decide +kernel)
set_option maxRecDepth 20000 in
theorem ggX9_claim_X9_lookAt_9 : GoodIn wsX9_claim wsX10 := goodIn_r _ [386, 387, 388, 389] (by decide +kernel) (by decide +kernel)
theorem ggX9_claim_X9_lookAt : GoodIn wsX9_claim wsX9_lookAt := goodIn_app ggX9_claim_X9_lookAt_h (goodIn_app (goodIn_app (goodIn_app (goodIn_app (goodIn_app (goodIn_app (goodIn_app (goodIn_app ggX9_claim_X9_lookAt_0 (goodIn_app ggX9_claim_X9_lookAt_1 ggX9_claim_X9_lookAt_2)) ggX9_claim_X9_lookAt_3) ggX9_claim_X9_lookAt_4) ggX9_claim_X9_lookAt_5) ggX9_claim_X9_lookAt_6) ggX9_claim_X9_lookAt_7) ggX9_claim_X9_lookAt_8) ggX9_claim_X9_lookAt_9)
set_option maxRecDepth 20000 in
theorem gX9_claim_X9_lookAt : GoodIn wsX9_claim (wsV RX9 182 RX9 yX9_lookAt wsX9_lookAt) := goodIn_app (goodIn_of _ (by decide +kernel)) ggX9_claim_X9_lookAt
set_option maxRecDepth 20000 in
theorem ggX9_claim_X4_whole : GoodIn wsX9_claim wsX4_whole := goodIn_r _ [84, 26, 40, 9, 41, 363, 364, 365, 366, 367, 368, 369, 370] (by decide +kernel) (by decide +kernel)
set_option maxRecDepth 20000 in
theorem gX9_claim_X4_whole : GoodIn wsX9_claim (wsV RX9 185 RX4 yX4_whole wsX4_whole) := goodIn_app (goodIn_of _ (by decide +kernel)) ggX9_claim_X4_whole
set_option maxRecDepth 20000 in
theorem ggX9_claim_X7_stagesWith : GoodIn wsX9_claim wsX7_stagesWith := goodIn_r _ [89, 90, 91, 92, 93, 94, 40, 9, 41, 95, 96, 97, 88, 98, 99, 100, 101, 102, 103, 104, 105, 106, 107, 108, 109, 363, 364, 365, 366, 367, 368, 369, 370, 356, 357, 358, 359, 360, 361, 362] (by decide +kernel) (by decide +kernel)
set_option maxRecDepth 20000 in
theorem gX9_claim_X7_stagesWith : GoodIn wsX9_claim (wsV RX9 190 RX7 yX7_stagesWith wsX7_stagesWith) := goodIn_app (goodIn_of _ (by decide +kernel)) ggX9_claim_X7_stagesWith
set_option maxRecDepth 20000 in
theorem ggX9_claim_X7_lowestOutside : GoodIn wsX9_claim wsX7_lowestOutside := goodIn_r _ [113, 99, 27, 9, 28, 356, 357, 358, 359, 360, 361, 362] (by decide +kernel) (by decide +kernel)
set_option maxRecDepth 20000 in
theorem gX9_claim_X7_lowestOutside : GoodIn wsX9_claim (wsV RX9 194 RX7 yX7_lowestOutside wsX7_lowestOutside) := goodIn_app (goodIn_of _ (by decide +kernel)) ggX9_claim_X7_lowestOutside
set_option maxRecDepth 20000 in
theorem ggX9_claim_X4_different : GoodIn wsX9_claim wsX4_different := goodIn_r _ [117, 24, 25, 118, 119, 120, 121, 122, 123, 124, 363, 364, 365, 366, 367, 368, 369, 370] (by decide +kernel) (by decide +kernel)
set_option maxRecDepth 20000 in
theorem gX9_claim_X4_different : GoodIn wsX9_claim (wsV RX9 197 RX4 yX4_different wsX4_different) := goodIn_app (goodIn_of _ (by decide +kernel)) ggX9_claim_X4_different
set_option maxRecDepth 20000 in
theorem ggX9_claim_X4_usedFacts : GoodIn wsX9_claim wsX4_usedFacts := goodIn_r _ [128, 25, 363, 364, 365, 366, 367, 368, 369, 370] (by decide +kernel) (by decide +kernel)
set_option maxRecDepth 20000 in
theorem gX9_claim_X4_usedFacts : GoodIn wsX9_claim (wsV RX9 200 RX4 yX4_usedFacts wsX4_usedFacts) := goodIn_app (goodIn_of _ (by decide +kernel)) ggX9_claim_X4_usedFacts
set_option maxRecDepth 20000 in
theorem ggX9_claim_X5_isFound_h : GoodIn wsX9_claim [Cond.code yX5_isFound cX5_isFound 4 (some .boolean)] := goodIn_r _ [132] (by decide +kernel) (by decide +kernel)
set_option maxRecDepth 20000 in
theorem ggX9_claim_X5_isFound_0 : GoodIn wsX9_claim wsX5_isFound_r1 := goodIn_r _ [133, 134, 135, 136, 137, 138, 139, 140, 141, 142, 143, 144, 145, 146, 147, 148, 40, 9, 41, 149, 150, 151, 152, 153] (by decide +kernel) (by decide +kernel)
set_option maxRecDepth 20000 in
theorem ggX9_claim_X5_isFound_1 : GoodIn wsX9_claim wsX5_isFound_r2 := goodIn_r _ [154, 155, 156, 157, 158, 70, 159, 160, 161, 162, 163, 164, 165, 166, 167, 168, 169, 170, 171, 172, 173, 174, 175, 176] (by decide +kernel) (by decide +kernel)
set_option maxRecDepth 20000 in
theorem ggX9_claim_X5_isFound_2 : GoodIn wsX9_claim wsX5_isFound_r3 := goodIn_r _ [177, 178, 179, 180, 181, 182, 183, 184, 52, 185, 54, 27, 28, 186, 82, 83, 22, 84, 26, 187, 188, 189, 190, 191] (by decide +kernel) (by decide +kernel)
set_option maxRecDepth 20000 in
theorem ggX9_claim_X5_isFound_3 : GoodIn wsX9_claim wsX5_isFound_r4 := goodIn_r _ [192, 193, 194, 195, 196, 73, 197, 198, 199, 200, 201, 202, 203, 204, 205, 24, 48, 206, 207, 208, 209, 210, 211, 212] (by decide +kernel) (by decide +kernel)
set_option maxRecDepth 20000 in
theorem ggX9_claim_X5_isFound_4 : GoodIn wsX9_claim wsX5_isFound_r5 := goodIn_r _ [213, 214, 215, 72, 216, 217, 218, 219, 220, 221, 222, 223, 224, 225, 226, 227, 228, 229, 230, 231, 232, 233, 234, 235] (by decide +kernel) (by decide +kernel)
set_option maxRecDepth 20000 in
theorem ggX9_claim_X5_isFound_5 : GoodIn wsX9_claim wsX5_isFound_r6 := goodIn_r _ [236, 237, 238, 239, 240, 241, 242, 243, 244, 245, 246, 247, 248, 249, 250, 251, 252, 253, 77, 254, 255, 256, 257, 258] (by decide +kernel) (by decide +kernel)
set_option maxRecDepth 20000 in
theorem ggX9_claim_X5_isFound_6 : GoodIn wsX9_claim wsX5_isFound_r7 := goodIn_r _ [259, 260, 261, 262, 263, 264, 265, 266, 267, 268, 269, 270, 271, 272, 273, 274, 275, 276, 277, 278, 279, 280, 281, 282] (by decide +kernel) (by decide +kernel)
set_option maxRecDepth 20000 in
theorem ggX9_claim_X5_isFound_7 : GoodIn wsX9_claim wsX5_isFound_r8 := goodIn_r _ [283, 284, 285, 286, 287, 288, 289, 290, 291, 292, 293, 294, 295, 296, 297, 298, 299, 300, 301, 302, 303, 304, 305, 306] (by decide +kernel) (by decide +kernel)
set_option maxRecDepth 20000 in
theorem ggX9_claim_X5_isFound_8 : GoodIn wsX9_claim wsX5_isFound_r9 := goodIn_r _ [307, 308, 309, 310, 311, 312, 313, 314, 315, 80, 316, 79, 317, 36, 37, 38, 318, 319, 320, 321, 322] (by decide +kernel) (by decide +kernel)
set_option maxRecDepth 20000 in
theorem ggX9_claim_X5_isFound_9 : GoodIn wsX9_claim wsX50 := goodIn_r _ [376, 377, 378, 379, 380, 381, 382, 383, 384, 385] (by decide +kernel) (by decide +kernel)
set_option maxRecDepth 20000 in
theorem ggX9_claim_X5_isFound_10 : GoodIn wsX9_claim wsX20 := goodIn_r _ [390, 391, 392, 393, 394] (by decide +kernel) (by decide +kernel)
set_option maxRecDepth 20000 in
theorem ggX9_claim_X5_isFound_11 : GoodIn wsX9_claim wsX30 := goodIn_r _ [395] (by decide +kernel) (by decide +kernel)
set_option maxRecDepth 20000 in
theorem ggX9_claim_X5_isFound_12 : GoodIn wsX9_claim wsX60 := goodIn_r _ [371, 372, 373, 374, 375] (by decide +kernel) (by decide +kernel)
set_option maxRecDepth 20000 in
theorem ggX9_claim_X5_isFound_13 : GoodIn wsX9_claim wsX40 := goodIn_r _ [363, 364, 365, 366, 367, 368, 369, 370] (by decide +kernel) (by decide +kernel)
set_option maxRecDepth 20000 in
theorem ggX9_claim_X5_isFound_14 : GoodIn wsX9_claim wsX10 := goodIn_r _ [386, 387, 388, 389] (by decide +kernel) (by decide +kernel)
theorem ggX9_claim_X5_isFound : GoodIn wsX9_claim wsX5_isFound := goodIn_app ggX9_claim_X5_isFound_h (goodIn_app (goodIn_app (goodIn_app (goodIn_app (goodIn_app (goodIn_app (goodIn_app ggX9_claim_X5_isFound_0 (goodIn_app ggX9_claim_X5_isFound_1 (goodIn_app ggX9_claim_X5_isFound_2 (goodIn_app ggX9_claim_X5_isFound_3 (goodIn_app ggX9_claim_X5_isFound_4 (goodIn_app ggX9_claim_X5_isFound_5 (goodIn_app ggX9_claim_X5_isFound_6 (goodIn_app ggX9_claim_X5_isFound_7 ggX9_claim_X5_isFound_8)))))))) ggX9_claim_X5_isFound_9) ggX9_claim_X5_isFound_10) ggX9_claim_X5_isFound_11) ggX9_claim_X5_isFound_12) ggX9_claim_X5_isFound_13) ggX9_claim_X5_isFound_14)
set_option maxRecDepth 20000 in
theorem gX9_claim_X5_isFound : GoodIn wsX9_claim (wsV RX9 203 RX5 yX5_isFound wsX5_isFound) := goodIn_app (goodIn_of _ (by decide +kernel)) ggX9_claim_X5_isFound
set_option maxRecDepth 20000 in
theorem ggX9_claim_X9_truth : GoodIn wsX9_claim wsX9_truth := goodIn_r _ [325] (by decide +kernel) (by decide +kernel)
set_option maxRecDepth 20000 in
theorem gX9_claim_X9_truth : GoodIn wsX9_claim (va_wsS RX9 178 yX9_truth wsX9_truth) := goodIn_app (goodIn_of _ (by decide +kernel)) ggX9_claim_X9_truth
set_option maxRecDepth 20000 in
theorem ggX9_claim_X6_entailsPlainly : GoodIn wsX9_claim wsX6_entailsPlainly := goodIn_r _ [329, 54, 330, 331, 332, 52, 333, 60, 334, 335, 336, 337, 66, 27, 9, 28, 338, 82, 83, 22, 84, 26, 40, 41, 371, 372, 373, 374, 375, 363, 364, 365, 366, 367, 368, 369, 370] (by decide +kernel) (by decide +kernel)
set_option maxRecDepth 20000 in
theorem gX9_claim_X6_entailsPlainly : GoodIn wsX9_claim (wsV RX9 206 RX6 yX6_entailsPlainly wsX6_entailsPlainly) := goodIn_app (goodIn_of _ (by decide +kernel)) ggX9_claim_X6_entailsPlainly
set_option maxRecDepth 20000 in
theorem ggX9_claim_X4_depth : GoodIn wsX9_claim wsX4_depth := goodIn_r _ [342, 24, 343, 46, 47, 35, 36, 37, 38, 40, 9, 41, 344, 82, 83, 22, 84, 26, 363, 364, 365, 366, 367, 368, 369, 370] (by decide +kernel) (by decide +kernel)
set_option maxRecDepth 20000 in
theorem gX9_claim_X4_depth : GoodIn wsX9_claim (wsV RX9 209 RX4 yX4_depth wsX4_depth) := goodIn_app (goodIn_of _ (by decide +kernel)) ggX9_claim_X4_depth
theorem dX9_claim_0 : decode cX9_claim 0 = .ok (.aload_n 0, 1) := by decide +kernel
theorem dX9_claim_1 : decode cX9_claim 1 = .ok (.iload_n 1, 1) := by decide +kernel
theorem dX9_claim_2 : decode cX9_claim 2 = .ok (.invokevirtual 132, 3) := by decide +kernel
theorem dX9_claim_5 : decode cX9_claim 5 = .ok (.astore_n 3, 1) := by decide +kernel
theorem dX9_claim_6 : decode cX9_claim 6 = .ok (.aload_n 3, 1) := by decide +kernel
theorem dX9_claim_7 : decode cX9_claim 7 = .ok (.ifnonnull 5, 3) := by decide +kernel
theorem dX9_claim_10 : decode cX9_claim 10 = .ok (.iconst (-1), 1) := by decide +kernel
theorem dX9_claim_11 : decode cX9_claim 11 = .ok (.ireturn, 1) := by decide +kernel
theorem dX9_claim_12 : decode cX9_claim 12 = .ok (.aload_n 0, 1) := by decide +kernel
theorem dX9_claim_13 : decode cX9_claim 13 = .ok (.iconst 1, 1) := by decide +kernel
theorem dX9_claim_14 : decode cX9_claim 14 = .ok (.iload_n 1, 1) := by decide +kernel
theorem dX9_claim_15 : decode cX9_claim 15 = .ok (.ishl, 1) := by decide +kernel
theorem dX9_claim_16 : decode cX9_claim 16 = .ok (.invokevirtual 182, 3) := by decide +kernel
theorem dX9_claim_19 : decode cX9_claim 19 = .ok (.aload_n 0, 1) := by decide +kernel
theorem dX9_claim_20 : decode cX9_claim 20 = .ok (.getfield 10, 3) := by decide +kernel
theorem dX9_claim_23 : decode cX9_claim 23 = .ok (.aload_n 0, 1) := by decide +kernel
theorem dX9_claim_24 : decode cX9_claim 24 = .ok (.getfield 56, 3) := by decide +kernel
theorem dX9_claim_27 : decode cX9_claim 27 = .ok (.aload_n 0, 1) := by decide +kernel
theorem dX9_claim_28 : decode cX9_claim 28 = .ok (.getfield 56, 3) := by decide +kernel
theorem dX9_claim_31 : decode cX9_claim 31 = .ok (.iload_n 1, 1) := by decide +kernel
theorem dX9_claim_32 : decode cX9_claim 32 = .ok (.invokevirtual 185, 3) := by decide +kernel
theorem dX9_claim_35 : decode cX9_claim 35 = .ok (.invokevirtual 190, 3) := by decide +kernel
theorem dX9_claim_38 : decode cX9_claim 38 = .ok (.istore 4, 2) := by decide +kernel
theorem dX9_claim_40 : decode cX9_claim 40 = .ok (.iload_n 2, 1) := by decide +kernel
theorem dX9_claim_41 : decode cX9_claim 41 = .ok (.tableswitch 116 0 7 #[47, 50, 60, 65, 73, 81, 94, 107], 47) := by decide +kernel
theorem dX9_claim_88 : decode cX9_claim 88 = .ok (.iload 4, 2) := by decide +kernel
theorem dX9_claim_90 : decode cX9_claim 90 = .ok (.ireturn, 1) := by decide +kernel
theorem dX9_claim_91 : decode cX9_claim 91 = .ok (.aload_n 0, 1) := by decide +kernel
theorem dX9_claim_92 : decode cX9_claim 92 = .ok (.getfield 10, 3) := by decide +kernel
theorem dX9_claim_95 : decode cX9_claim 95 = .ok (.iload 4, 2) := by decide +kernel
theorem dX9_claim_97 : decode cX9_claim 97 = .ok (.invokevirtual 194, 3) := by decide +kernel
theorem dX9_claim_100 : decode cX9_claim 100 = .ok (.ireturn, 1) := by decide +kernel
theorem dX9_claim_101 : decode cX9_claim 101 = .ok (.aload_n 3, 1) := by decide +kernel
theorem dX9_claim_102 : decode cX9_claim 102 = .ok (.getfield 157, 3) := by decide +kernel
theorem dX9_claim_105 : decode cX9_claim 105 = .ok (.ireturn, 1) := by decide +kernel
theorem dX9_claim_106 : decode cX9_claim 106 = .ok (.aload_n 0, 1) := by decide +kernel
theorem dX9_claim_107 : decode cX9_claim 107 = .ok (.getfield 56, 3) := by decide +kernel
theorem dX9_claim_110 : decode cX9_claim 110 = .ok (.invokevirtual 197, 3) := by decide +kernel
theorem dX9_claim_113 : decode cX9_claim 113 = .ok (.ireturn, 1) := by decide +kernel
theorem dX9_claim_114 : decode cX9_claim 114 = .ok (.aload_n 0, 1) := by decide +kernel
theorem dX9_claim_115 : decode cX9_claim 115 = .ok (.getfield 56, 3) := by decide +kernel
theorem dX9_claim_118 : decode cX9_claim 118 = .ok (.invokevirtual 200, 3) := by decide +kernel
theorem dX9_claim_121 : decode cX9_claim 121 = .ok (.ireturn, 1) := by decide +kernel
theorem dX9_claim_122 : decode cX9_claim 122 = .ok (.aload_n 0, 1) := by decide +kernel
theorem dX9_claim_123 : decode cX9_claim 123 = .ok (.getfield 41, 3) := by decide +kernel
theorem dX9_claim_126 : decode cX9_claim 126 = .ok (.iconst 0, 1) := by decide +kernel
theorem dX9_claim_127 : decode cX9_claim 127 = .ok (.iload_n 1, 1) := by decide +kernel
theorem dX9_claim_128 : decode cX9_claim 128 = .ok (.invokevirtual 203, 3) := by decide +kernel
theorem dX9_claim_131 : decode cX9_claim 131 = .ok (.invokestatic 178, 3) := by decide +kernel
theorem dX9_claim_134 : decode cX9_claim 134 = .ok (.ireturn, 1) := by decide +kernel
theorem dX9_claim_135 : decode cX9_claim 135 = .ok (.aload_n 0, 1) := by decide +kernel
theorem dX9_claim_136 : decode cX9_claim 136 = .ok (.getfield 49, 3) := by decide +kernel
theorem dX9_claim_139 : decode cX9_claim 139 = .ok (.iconst 0, 1) := by decide +kernel
theorem dX9_claim_140 : decode cX9_claim 140 = .ok (.iload_n 1, 1) := by decide +kernel
theorem dX9_claim_141 : decode cX9_claim 141 = .ok (.invokevirtual 206, 3) := by decide +kernel
theorem dX9_claim_144 : decode cX9_claim 144 = .ok (.invokestatic 178, 3) := by decide +kernel
theorem dX9_claim_147 : decode cX9_claim 147 = .ok (.ireturn, 1) := by decide +kernel
theorem dX9_claim_148 : decode cX9_claim 148 = .ok (.aload_n 0, 1) := by decide +kernel
theorem dX9_claim_149 : decode cX9_claim 149 = .ok (.getfield 56, 3) := by decide +kernel
theorem dX9_claim_152 : decode cX9_claim 152 = .ok (.iload_n 1, 1) := by decide +kernel
theorem dX9_claim_153 : decode cX9_claim 153 = .ok (.invokevirtual 209, 3) := by decide +kernel
theorem dX9_claim_156 : decode cX9_claim 156 = .ok (.ireturn, 1) := by decide +kernel
theorem dX9_claim_157 : decode cX9_claim 157 = .ok (.bipush (-2), 2) := by decide +kernel
theorem dX9_claim_159 : decode cX9_claim 159 = .ok (.ireturn, 1) := by decide +kernel
set_option maxRecDepth 20000 in
theorem ggX9_holds_X9_claimAt : GoodIn wsX9_holds wsX9_claimAt := goodIn_r _ [6, 1, 7, 8, 9, 5, 10, 83, 84, 85, 86, 87, 88, 89, 90, 91, 92, 93, 94, 95, 96, 97, 98] (by decide +kernel) (by decide +kernel)
set_option maxRecDepth 20000 in
theorem gX9_holds_X9_claimAt : GoodIn wsX9_holds (wsV RX9 132 RX9 yX9_claimAt wsX9_claimAt) := goodIn_app (goodIn_of _ (by decide +kernel)) ggX9_holds_X9_claimAt
set_option maxRecDepth 20000 in
theorem ggX9_holds_X7_isStage : GoodIn wsX9_holds wsX7_isStage := goodIn_r _ [15, 16, 92, 93, 94, 95, 96, 97, 98] (by decide +kernel) (by decide +kernel)
set_option maxRecDepth 20000 in
theorem gX9_holds_X7_isStage : GoodIn wsX9_holds (wsV RX9 57 RX7 yX7_isStage wsX7_isStage) := goodIn_app (goodIn_of _ (by decide +kernel)) ggX9_holds_X7_isStage
set_option maxRecDepth 20000 in
theorem ggX9_holds_X9_stagesOf_h : GoodIn wsX9_holds [Cond.code yX9_stagesOf cX9_stagesOf 2 (some .int)] := goodIn_r _ [20] (by decide +kernel) (by decide +kernel)
set_option maxRecDepth 20000 in
theorem ggX9_holds_X9_stagesOf_0 : GoodIn wsX9_holds wsX9_stagesOf_r1 := goodIn_r _ [21, 1, 7, 22, 23, 24, 25, 26, 27, 28, 29, 30, 5, 31, 32, 33, 34, 35, 36, 37, 38, 39, 40, 41] (by decide +kernel) (by decide +kernel)
set_option maxRecDepth 20000 in
theorem ggX9_holds_X9_stagesOf_1 : GoodIn wsX9_holds wsX9_stagesOf_r2 := goodIn_r _ [42, 43, 44, 45, 46, 47, 48, 49, 50, 51, 52, 53, 54, 55, 56, 57, 58, 14, 59, 60, 61, 62, 63, 64] (by decide +kernel) (by decide +kernel)
set_option maxRecDepth 20000 in
theorem ggX9_holds_X9_stagesOf_2 : GoodIn wsX9_holds wsX9_stagesOf_r3 := goodIn_r _ [65, 66, 67, 68, 16, 69, 70, 71, 72, 73, 74, 75, 76, 77, 78] (by decide +kernel) (by decide +kernel)
set_option maxRecDepth 20000 in
theorem ggX9_holds_X9_stagesOf_3 : GoodIn wsX9_holds wsX90 := goodIn_r _ [83, 84, 85, 86, 87, 88, 89, 90, 91] (by decide +kernel) (by decide +kernel)
set_option maxRecDepth 20000 in
theorem ggX9_holds_X9_stagesOf_4 : GoodIn wsX9_holds wsX70 := goodIn_r _ [92, 93, 94, 95, 96, 97, 98] (by decide +kernel) (by decide +kernel)
set_option maxRecDepth 20000 in
theorem ggX9_holds_X9_stagesOf_5 : GoodIn wsX9_holds wsX40 := goodIn_r _ [99, 100, 101, 102, 103, 104, 105, 106] (by decide +kernel) (by decide +kernel)
set_option maxRecDepth 20000 in
theorem ggX9_holds_X9_stagesOf_6 : GoodIn wsX9_holds wsX00 := goodIn_r _ [107, 108] (by decide +kernel) (by decide +kernel)
theorem ggX9_holds_X9_stagesOf : GoodIn wsX9_holds wsX9_stagesOf := goodIn_app ggX9_holds_X9_stagesOf_h (goodIn_app (goodIn_app (goodIn_app (goodIn_app (goodIn_app ggX9_holds_X9_stagesOf_0 (goodIn_app ggX9_holds_X9_stagesOf_1 ggX9_holds_X9_stagesOf_2)) ggX9_holds_X9_stagesOf_3) ggX9_holds_X9_stagesOf_4) ggX9_holds_X9_stagesOf_5) ggX9_holds_X9_stagesOf_6)
set_option maxRecDepth 20000 in
theorem gX9_holds_X9_stagesOf : GoodIn wsX9_holds (wsV RX9 146 RX9 yX9_stagesOf wsX9_stagesOf) := goodIn_app (goodIn_of _ (by decide +kernel)) ggX9_holds_X9_stagesOf
set_option maxRecDepth 20000 in
theorem ggX9_holds_X9_has : GoodIn wsX9_holds wsX9_has := goodIn_r _ [31] (by decide +kernel) (by decide +kernel)
set_option maxRecDepth 20000 in
theorem gX9_holds_X9_has : GoodIn wsX9_holds (va_wsS RX9 75 yX9_has wsX9_has) := goodIn_app (goodIn_of _ (by decide +kernel)) ggX9_holds_X9_has
set_option maxRecDepth 20000 in
theorem ggX9_holds_X9_truth : GoodIn wsX9_holds wsX9_truth := goodIn_r _ [82] (by decide +kernel) (by decide +kernel)
set_option maxRecDepth 20000 in
theorem gX9_holds_X9_truth : GoodIn wsX9_holds (va_wsS RX9 178 yX9_truth wsX9_truth) := goodIn_app (goodIn_of _ (by decide +kernel)) ggX9_holds_X9_truth
theorem dX9_holds_0 : decode cX9_holds 0 = .ok (.aload_n 0, 1) := by decide +kernel
theorem dX9_holds_1 : decode cX9_holds 1 = .ok (.iload_n 1, 1) := by decide +kernel
theorem dX9_holds_2 : decode cX9_holds 2 = .ok (.invokevirtual 132, 3) := by decide +kernel
theorem dX9_holds_5 : decode cX9_holds 5 = .ok (.ifnull 14, 3) := by decide +kernel
theorem dX9_holds_8 : decode cX9_holds 8 = .ok (.aload_n 0, 1) := by decide +kernel
theorem dX9_holds_9 : decode cX9_holds 9 = .ok (.getfield 10, 3) := by decide +kernel
theorem dX9_holds_12 : decode cX9_holds 12 = .ok (.iload_n 2, 1) := by decide +kernel
theorem dX9_holds_13 : decode cX9_holds 13 = .ok (.invokevirtual 57, 3) := by decide +kernel
theorem dX9_holds_16 : decode cX9_holds 16 = .ok (.ifCond .ne 5, 3) := by decide +kernel
theorem dX9_holds_19 : decode cX9_holds 19 = .ok (.iconst (-1), 1) := by decide +kernel
theorem dX9_holds_20 : decode cX9_holds 20 = .ok (.ireturn, 1) := by decide +kernel
theorem dX9_holds_21 : decode cX9_holds 21 = .ok (.aload_n 0, 1) := by decide +kernel
theorem dX9_holds_22 : decode cX9_holds 22 = .ok (.iload_n 1, 1) := by decide +kernel
theorem dX9_holds_23 : decode cX9_holds 23 = .ok (.invokevirtual 146, 3) := by decide +kernel
theorem dX9_holds_26 : decode cX9_holds 26 = .ok (.iload_n 2, 1) := by decide +kernel
theorem dX9_holds_27 : decode cX9_holds 27 = .ok (.invokestatic 75, 3) := by decide +kernel
theorem dX9_holds_30 : decode cX9_holds 30 = .ok (.invokestatic 178, 3) := by decide +kernel
theorem dX9_holds_33 : decode cX9_holds 33 = .ok (.ireturn, 1) := by decide +kernel
set_option maxRecDepth 20000 in
theorem ggX9_follows_X9_questionError : GoodIn wsX9_follows wsX9_questionError := goodIn_r _ [6, 7, 8, 9, 10, 11, 12, 13, 14, 15, 16, 5, 17, 18, 19, 20, 21, 290, 291, 292, 293, 294, 295, 296, 297, 298, 299, 300, 301, 302, 303, 304, 305] (by decide +kernel) (by decide +kernel)
set_option maxRecDepth 20000 in
theorem gX9_follows_X9_questionError : GoodIn wsX9_follows (wsV RX9 212 RX9 yX9_questionError wsX9_questionError) := goodIn_app (goodIn_of _ (by decide +kernel)) ggX9_follows_X9_questionError
set_option maxRecDepth 20000 in
theorem ggX9_follows_X9_lookAt_h : GoodIn wsX9_follows [Cond.code yX9_lookAt cX9_lookAt 2 none] := goodIn_r _ [25] (by decide +kernel) (by decide +kernel)
set_option maxRecDepth 20000 in
theorem ggX9_follows_X9_lookAt_0 : GoodIn wsX9_follows wsX9_lookAt_r1 := goodIn_r _ [26, 7, 18, 27, 1, 28, 29, 30, 31, 32, 33, 34, 35, 36, 5, 37, 38, 39, 40, 41, 42, 43, 44, 45] (by decide +kernel) (by decide +kernel)
set_option maxRecDepth 20000 in
theorem ggX9_follows_X9_lookAt_1 : GoodIn wsX9_follows wsX9_lookAt_r2 := goodIn_r _ [46, 47, 48, 49, 50, 51, 52, 53, 54, 55, 56, 57, 58, 59, 60, 61, 62, 63, 64, 65, 66, 67, 68, 69] (by decide +kernel) (by decide +kernel)
set_option maxRecDepth 20000 in
theorem ggX9_follows_X9_lookAt_2 : GoodIn wsX9_follows wsX9_lookAt_r3 := goodIn_r _ [70, 71, 72, 73, 74, 75, 76, 77, 78, 79, 80, 81, 82, 83, 84, 85, 86, 87, 88, 89] (by decide +kernel) (by decide +kernel)
set_option maxRecDepth 20000 in
theorem ggX9_follows_X9_lookAt_3 : GoodIn wsX9_follows wsX90 := goodIn_r _ [290, 291, 292, 293, 294, 295, 296, 297, 298] (by decide +kernel) (by decide +kernel)
set_option maxRecDepth 20000 in
theorem ggX9_follows_X9_lookAt_4 : GoodIn wsX9_follows wsX70 := goodIn_r _ [299, 300, 301, 302, 303, 304, 305] (by decide +kernel) (by decide +kernel)
set_option maxRecDepth 20000 in
theorem ggX9_follows_X9_lookAt_5 : GoodIn wsX9_follows wsX40 := goodIn_r _ [306, 307, 308, 309, 310, 311, 312, 313] (by decide +kernel) (by decide +kernel)
set_option maxRecDepth 20000 in
theorem ggX9_follows_X9_lookAt_6 : GoodIn wsX9_follows wsX00 := goodIn_r _ [314, 315] (by decide +kernel) (by decide +kernel)
set_option maxRecDepth 20000 in
theorem ggX9_follows_X9_lookAt_7 : GoodIn wsX9_follows wsX60 := goodIn_r _ [316, 317, 318, 319, 320] (by decide +kernel) (by decide +kernel)
set_option maxRecDepth 20000 in
theorem ggX9_follows_X9_lookAt_8 : GoodIn wsX9_follows wsX50 := goodIn_r _ [321, 322, 323, 324, 325, 326, 327, 328, 329, 330] (by decide +kernel) (by decide +kernel)
set_option maxRecDepth 20000 in
theorem ggX9_follows_X9_lookAt_9 : GoodIn wsX9_follows wsX10 := goodIn_r _ [331, 332, 333, 334] (by decide +kernel) (by decide +kernel)
theorem ggX9_follows_X9_lookAt : GoodIn wsX9_follows wsX9_lookAt := goodIn_app ggX9_follows_X9_lookAt_h (goodIn_app (goodIn_app (goodIn_app (goodIn_app (goodIn_app (goodIn_app (goodIn_app (goodIn_app ggX9_follows_X9_lookAt_0 (goodIn_app ggX9_follows_X9_lookAt_1 ggX9_follows_X9_lookAt_2)) ggX9_follows_X9_lookAt_3) ggX9_follows_X9_lookAt_4) ggX9_follows_X9_lookAt_5) ggX9_follows_X9_lookAt_6) ggX9_follows_X9_lookAt_7) ggX9_follows_X9_lookAt_8) ggX9_follows_X9_lookAt_9)
set_option maxRecDepth 20000 in
theorem gX9_follows_X9_lookAt : GoodIn wsX9_follows (wsV RX9 182 RX9 yX9_lookAt wsX9_lookAt) := goodIn_app (goodIn_of _ (by decide +kernel)) ggX9_follows_X9_lookAt
set_option maxRecDepth 20000 in
theorem ggX9_follows_X5_isFound_h : GoodIn wsX9_follows [Cond.code yX5_isFound cX5_isFound 4 (some .boolean)] := goodIn_r _ [93] (by decide +kernel) (by decide +kernel)
set_option maxRecDepth 20000 in
theorem ggX9_follows_X5_isFound_0 : GoodIn wsX9_follows wsX5_isFound_r1 := goodIn_r _ [94, 95, 96, 97, 98, 99, 100, 101, 102, 103, 104, 105, 106, 107, 108, 109, 49, 5, 50, 110, 111, 112, 113, 114] (by decide +kernel) (by decide +kernel)
set_option maxRecDepth 20000 in
theorem ggX9_follows_X5_isFound_1 : GoodIn wsX9_follows wsX5_isFound_r2 := goodIn_r _ [115, 116, 117, 118, 119, 79, 120, 121, 122, 123, 124, 125, 126, 127, 128, 129, 130, 131, 132, 133, 134, 135, 136, 137] (by decide +kernel) (by decide +kernel)
set_option maxRecDepth 20000 in
theorem ggX9_follows_X5_isFound_2 : GoodIn wsX9_follows wsX5_isFound_r3 := goodIn_r _ [138, 139, 140, 141, 142, 143, 144, 145, 61, 146, 63, 36, 37, 147, 148, 149, 31, 150, 35, 151, 152, 153, 154, 155] (by decide +kernel) (by decide +kernel)
set_option maxRecDepth 20000 in
theorem ggX9_follows_X5_isFound_3 : GoodIn wsX9_follows wsX5_isFound_r4 := goodIn_r _ [156, 157, 158, 159, 160, 82, 161, 162, 163, 164, 165, 166, 167, 168, 169, 33, 57, 170, 171, 172, 173, 174, 175, 176] (by decide +kernel) (by decide +kernel)
set_option maxRecDepth 20000 in
theorem ggX9_follows_X5_isFound_4 : GoodIn wsX9_follows wsX5_isFound_r5 := goodIn_r _ [177, 178, 179, 81, 180, 181, 182, 183, 184, 185, 186, 187, 188, 189, 190, 191, 192, 193, 194, 195, 196, 197, 198, 199] (by decide +kernel) (by decide +kernel)
set_option maxRecDepth 20000 in
theorem ggX9_follows_X5_isFound_5 : GoodIn wsX9_follows wsX5_isFound_r6 := goodIn_r _ [200, 201, 202, 203, 204, 205, 206, 207, 208, 209, 210, 211, 212, 213, 214, 215, 216, 217, 86, 218, 219, 220, 221, 222] (by decide +kernel) (by decide +kernel)
set_option maxRecDepth 20000 in
theorem ggX9_follows_X5_isFound_6 : GoodIn wsX9_follows wsX5_isFound_r7 := goodIn_r _ [223, 224, 225, 226, 227, 228, 229, 230, 231, 232, 233, 234, 235, 236, 237, 238, 239, 240, 241, 242, 243, 244, 245, 246] (by decide +kernel) (by decide +kernel)
set_option maxRecDepth 20000 in
theorem ggX9_follows_X5_isFound_7 : GoodIn wsX9_follows wsX5_isFound_r8 := goodIn_r _ [247, 248, 249, 250, 251, 252, 253, 254, 255, 256, 257, 258, 259, 260, 261, 262, 263, 264, 265, 266, 267, 268, 269, 270] (by decide +kernel) (by decide +kernel)
set_option maxRecDepth 20000 in
theorem ggX9_follows_X5_isFound_8 : GoodIn wsX9_follows wsX5_isFound_r9 := goodIn_r _ [271, 272, 273, 274, 275, 276, 277, 278, 279, 89, 280, 88, 281, 45, 46, 47, 282, 283, 284, 285, 286] (by decide +kernel) (by decide +kernel)
set_option maxRecDepth 20000 in
theorem ggX9_follows_X5_isFound_9 : GoodIn wsX9_follows wsX50 := goodIn_r _ [321, 322, 323, 324, 325, 326, 327, 328, 329, 330] (by decide +kernel) (by decide +kernel)
set_option maxRecDepth 20000 in
theorem ggX9_follows_X5_isFound_10 : GoodIn wsX9_follows wsX20 := goodIn_r _ [335, 336, 337, 338, 339] (by decide +kernel) (by decide +kernel)
set_option maxRecDepth 20000 in
theorem ggX9_follows_X5_isFound_11 : GoodIn wsX9_follows wsX30 := goodIn_r _ [340] (by decide +kernel) (by decide +kernel)
set_option maxRecDepth 20000 in
theorem ggX9_follows_X5_isFound_12 : GoodIn wsX9_follows wsX60 := goodIn_r _ [316, 317, 318, 319, 320] (by decide +kernel) (by decide +kernel)
set_option maxRecDepth 20000 in
theorem ggX9_follows_X5_isFound_13 : GoodIn wsX9_follows wsX40 := goodIn_r _ [306, 307, 308, 309, 310, 311, 312, 313] (by decide +kernel) (by decide +kernel)
set_option maxRecDepth 20000 in
theorem ggX9_follows_X5_isFound_14 : GoodIn wsX9_follows wsX10 := goodIn_r _ [331, 332, 333, 334] (by decide +kernel) (by decide +kernel)
theorem ggX9_follows_X5_isFound : GoodIn wsX9_follows wsX5_isFound := goodIn_app ggX9_follows_X5_isFound_h (goodIn_app (goodIn_app (goodIn_app (goodIn_app (goodIn_app (goodIn_app (goodIn_app ggX9_follows_X5_isFound_0 (goodIn_app ggX9_follows_X5_isFound_1 (goodIn_app ggX9_follows_X5_isFound_2 (goodIn_app ggX9_follows_X5_isFound_3 (goodIn_app ggX9_follows_X5_isFound_4 (goodIn_app ggX9_follows_X5_isFound_5 (goodIn_app ggX9_follows_X5_isFound_6 (goodIn_app ggX9_follows_X5_isFound_7 ggX9_follows_X5_isFound_8)))))))) ggX9_follows_X5_isFound_9) ggX9_follows_X5_isFound_10) ggX9_follows_X5_isFound_11) ggX9_follows_X5_isFound_12) ggX9_follows_X5_isFound_13) ggX9_follows_X5_isFound_14)
set_option maxRecDepth 20000 in
theorem gX9_follows_X5_isFound : GoodIn wsX9_follows (wsV RX9 203 RX5 yX5_isFound wsX5_isFound) := goodIn_app (goodIn_of _ (by decide +kernel)) ggX9_follows_X5_isFound
set_option maxRecDepth 20000 in
theorem ggX9_follows_X9_truth : GoodIn wsX9_follows wsX9_truth := goodIn_r _ [289] (by decide +kernel) (by decide +kernel)
set_option maxRecDepth 20000 in
theorem gX9_follows_X9_truth : GoodIn wsX9_follows (va_wsS RX9 178 yX9_truth wsX9_truth) := goodIn_app (goodIn_of _ (by decide +kernel)) ggX9_follows_X9_truth
theorem dX9_follows_0 : decode cX9_follows 0 = .ok (.aload_n 0, 1) := by decide +kernel
theorem dX9_follows_1 : decode cX9_follows 1 = .ok (.iload_n 1, 1) := by decide +kernel
theorem dX9_follows_2 : decode cX9_follows 2 = .ok (.iload_n 2, 1) := by decide +kernel
theorem dX9_follows_3 : decode cX9_follows 3 = .ok (.invokevirtual 212, 3) := by decide +kernel
theorem dX9_follows_6 : decode cX9_follows 6 = .ok (.istore_n 3, 1) := by decide +kernel
theorem dX9_follows_7 : decode cX9_follows 7 = .ok (.iload_n 3, 1) := by decide +kernel
theorem dX9_follows_8 : decode cX9_follows 8 = .ok (.ifCond .eq 5, 3) := by decide +kernel
theorem dX9_follows_11 : decode cX9_follows 11 = .ok (.iload_n 3, 1) := by decide +kernel
theorem dX9_follows_12 : decode cX9_follows 12 = .ok (.ireturn, 1) := by decide +kernel
theorem dX9_follows_13 : decode cX9_follows 13 = .ok (.aload_n 0, 1) := by decide +kernel
theorem dX9_follows_14 : decode cX9_follows 14 = .ok (.iload_n 1, 1) := by decide +kernel
theorem dX9_follows_15 : decode cX9_follows 15 = .ok (.iconst 1, 1) := by decide +kernel
theorem dX9_follows_16 : decode cX9_follows 16 = .ok (.iload_n 2, 1) := by decide +kernel
theorem dX9_follows_17 : decode cX9_follows 17 = .ok (.ishl, 1) := by decide +kernel
theorem dX9_follows_18 : decode cX9_follows 18 = .ok (.ior, 1) := by decide +kernel
theorem dX9_follows_19 : decode cX9_follows 19 = .ok (.invokevirtual 182, 3) := by decide +kernel
theorem dX9_follows_22 : decode cX9_follows 22 = .ok (.aload_n 0, 1) := by decide +kernel
theorem dX9_follows_23 : decode cX9_follows 23 = .ok (.getfield 41, 3) := by decide +kernel
theorem dX9_follows_26 : decode cX9_follows 26 = .ok (.iload_n 1, 1) := by decide +kernel
theorem dX9_follows_27 : decode cX9_follows 27 = .ok (.iload_n 2, 1) := by decide +kernel
theorem dX9_follows_28 : decode cX9_follows 28 = .ok (.invokevirtual 203, 3) := by decide +kernel
theorem dX9_follows_31 : decode cX9_follows 31 = .ok (.invokestatic 178, 3) := by decide +kernel
theorem dX9_follows_34 : decode cX9_follows 34 = .ok (.ireturn, 1) := by decide +kernel
set_option maxRecDepth 20000 in
theorem ggX9_followsPlainly_X9_questionError : GoodIn wsX9_followsPlainly wsX9_questionError := goodIn_r _ [6, 7, 8, 9, 10, 11, 12, 13, 14, 15, 16, 5, 17, 18, 19, 20, 21, 109, 110, 111, 112, 113, 114, 115, 116, 117, 118, 119, 120, 121, 122, 123, 124] (by decide +kernel) (by decide +kernel)
set_option maxRecDepth 20000 in
theorem gX9_followsPlainly_X9_questionError : GoodIn wsX9_followsPlainly (wsV RX9 212 RX9 yX9_questionError wsX9_questionError) := goodIn_app (goodIn_of _ (by decide +kernel)) ggX9_followsPlainly_X9_questionError
set_option maxRecDepth 20000 in
theorem ggX9_followsPlainly_X9_lookAt_h : GoodIn wsX9_followsPlainly [Cond.code yX9_lookAt cX9_lookAt 2 none] := goodIn_r _ [25] (by decide +kernel) (by decide +kernel)
set_option maxRecDepth 20000 in
theorem ggX9_followsPlainly_X9_lookAt_0 : GoodIn wsX9_followsPlainly wsX9_lookAt_r1 := goodIn_r _ [26, 7, 18, 1, 27, 28, 29, 30, 31, 32, 33, 34, 35, 36, 5, 37, 38, 39, 40, 41, 42, 43, 44, 45] (by decide +kernel) (by decide +kernel)
set_option maxRecDepth 20000 in
theorem ggX9_followsPlainly_X9_lookAt_1 : GoodIn wsX9_followsPlainly wsX9_lookAt_r2 := goodIn_r _ [46, 47, 48, 49, 50, 51, 52, 53, 54, 55, 56, 57, 58, 59, 60, 61, 62, 63, 64, 65, 66, 67, 68, 69] (by decide +kernel) (by decide +kernel)
set_option maxRecDepth 20000 in
theorem ggX9_followsPlainly_X9_lookAt_2 : GoodIn wsX9_followsPlainly wsX9_lookAt_r3 := goodIn_r _ [70, 71, 72, 73, 74, 75, 76, 77, 78, 79, 80, 81, 82, 83, 84, 85, 86, 87, 88, 89] (by decide +kernel) (by decide +kernel)
set_option maxRecDepth 20000 in
theorem ggX9_followsPlainly_X9_lookAt_3 : GoodIn wsX9_followsPlainly wsX90 := goodIn_r _ [109, 110, 111, 112, 113, 114, 115, 116, 117] (by decide +kernel) (by decide +kernel)
set_option maxRecDepth 20000 in
theorem ggX9_followsPlainly_X9_lookAt_4 : GoodIn wsX9_followsPlainly wsX70 := goodIn_r _ [118, 119, 120, 121, 122, 123, 124] (by decide +kernel) (by decide +kernel)
set_option maxRecDepth 20000 in
theorem ggX9_followsPlainly_X9_lookAt_5 : GoodIn wsX9_followsPlainly wsX40 := goodIn_r _ [125, 126, 127, 128, 129, 130, 131, 132] (by decide +kernel) (by decide +kernel)
set_option maxRecDepth 20000 in
theorem ggX9_followsPlainly_X9_lookAt_6 : GoodIn wsX9_followsPlainly wsX00 := goodIn_r _ [133, 134] (by decide +kernel) (by decide +kernel)
set_option maxRecDepth 20000 in
theorem ggX9_followsPlainly_X9_lookAt_7 : GoodIn wsX9_followsPlainly wsX60 := goodIn_r _ [135, 136, 137, 138, 139] (by decide +kernel) (by decide +kernel)
set_option maxRecDepth 20000 in
theorem ggX9_followsPlainly_X9_lookAt_8 : GoodIn wsX9_followsPlainly wsX50 := goodIn_r _ [140, 141, 142, 143, 144, 145, 146, 147, 148, 149] (by decide +kernel) (by decide +kernel)
set_option maxRecDepth 20000 in
theorem ggX9_followsPlainly_X9_lookAt_9 : GoodIn wsX9_followsPlainly wsX10 := goodIn_r _ [150, 151, 152, 153] (by decide +kernel) (by decide +kernel)
theorem ggX9_followsPlainly_X9_lookAt : GoodIn wsX9_followsPlainly wsX9_lookAt := goodIn_app ggX9_followsPlainly_X9_lookAt_h (goodIn_app (goodIn_app (goodIn_app (goodIn_app (goodIn_app (goodIn_app (goodIn_app (goodIn_app ggX9_followsPlainly_X9_lookAt_0 (goodIn_app ggX9_followsPlainly_X9_lookAt_1 ggX9_followsPlainly_X9_lookAt_2)) ggX9_followsPlainly_X9_lookAt_3) ggX9_followsPlainly_X9_lookAt_4) ggX9_followsPlainly_X9_lookAt_5) ggX9_followsPlainly_X9_lookAt_6) ggX9_followsPlainly_X9_lookAt_7) ggX9_followsPlainly_X9_lookAt_8) ggX9_followsPlainly_X9_lookAt_9)
set_option maxRecDepth 20000 in
theorem gX9_followsPlainly_X9_lookAt : GoodIn wsX9_followsPlainly (wsV RX9 182 RX9 yX9_lookAt wsX9_lookAt) := goodIn_app (goodIn_of _ (by decide +kernel)) ggX9_followsPlainly_X9_lookAt
set_option maxRecDepth 20000 in
theorem ggX9_followsPlainly_X6_entailsPlainly : GoodIn wsX9_followsPlainly wsX6_entailsPlainly := goodIn_r _ [93, 63, 94, 95, 96, 61, 97, 69, 98, 99, 100, 101, 75, 36, 5, 37, 102, 103, 104, 31, 105, 35, 49, 50, 135, 136, 137, 138, 139, 125, 126, 127, 128, 129, 130, 131, 132] (by decide +kernel) (by decide +kernel)
set_option maxRecDepth 20000 in
theorem gX9_followsPlainly_X6_entailsPlainly : GoodIn wsX9_followsPlainly (wsV RX9 206 RX6 yX6_entailsPlainly wsX6_entailsPlainly) := goodIn_app (goodIn_of _ (by decide +kernel)) ggX9_followsPlainly_X6_entailsPlainly
set_option maxRecDepth 20000 in
theorem ggX9_followsPlainly_X9_truth : GoodIn wsX9_followsPlainly wsX9_truth := goodIn_r _ [108] (by decide +kernel) (by decide +kernel)
set_option maxRecDepth 20000 in
theorem gX9_followsPlainly_X9_truth : GoodIn wsX9_followsPlainly (va_wsS RX9 178 yX9_truth wsX9_truth) := goodIn_app (goodIn_of _ (by decide +kernel)) ggX9_followsPlainly_X9_truth
theorem dX9_followsPlainly_0 : decode cX9_followsPlainly 0 = .ok (.aload_n 0, 1) := by decide +kernel
theorem dX9_followsPlainly_1 : decode cX9_followsPlainly 1 = .ok (.iload_n 1, 1) := by decide +kernel
theorem dX9_followsPlainly_2 : decode cX9_followsPlainly 2 = .ok (.iload_n 2, 1) := by decide +kernel
theorem dX9_followsPlainly_3 : decode cX9_followsPlainly 3 = .ok (.invokevirtual 212, 3) := by decide +kernel
theorem dX9_followsPlainly_6 : decode cX9_followsPlainly 6 = .ok (.istore_n 3, 1) := by decide +kernel
theorem dX9_followsPlainly_7 : decode cX9_followsPlainly 7 = .ok (.iload_n 3, 1) := by decide +kernel
theorem dX9_followsPlainly_8 : decode cX9_followsPlainly 8 = .ok (.ifCond .eq 5, 3) := by decide +kernel
theorem dX9_followsPlainly_11 : decode cX9_followsPlainly 11 = .ok (.iload_n 3, 1) := by decide +kernel
theorem dX9_followsPlainly_12 : decode cX9_followsPlainly 12 = .ok (.ireturn, 1) := by decide +kernel
theorem dX9_followsPlainly_13 : decode cX9_followsPlainly 13 = .ok (.aload_n 0, 1) := by decide +kernel
theorem dX9_followsPlainly_14 : decode cX9_followsPlainly 14 = .ok (.iload_n 1, 1) := by decide +kernel
theorem dX9_followsPlainly_15 : decode cX9_followsPlainly 15 = .ok (.iconst 1, 1) := by decide +kernel
theorem dX9_followsPlainly_16 : decode cX9_followsPlainly 16 = .ok (.iload_n 2, 1) := by decide +kernel
theorem dX9_followsPlainly_17 : decode cX9_followsPlainly 17 = .ok (.ishl, 1) := by decide +kernel
theorem dX9_followsPlainly_18 : decode cX9_followsPlainly 18 = .ok (.ior, 1) := by decide +kernel
theorem dX9_followsPlainly_19 : decode cX9_followsPlainly 19 = .ok (.invokevirtual 182, 3) := by decide +kernel
theorem dX9_followsPlainly_22 : decode cX9_followsPlainly 22 = .ok (.aload_n 0, 1) := by decide +kernel
theorem dX9_followsPlainly_23 : decode cX9_followsPlainly 23 = .ok (.getfield 49, 3) := by decide +kernel
theorem dX9_followsPlainly_26 : decode cX9_followsPlainly 26 = .ok (.iload_n 1, 1) := by decide +kernel
theorem dX9_followsPlainly_27 : decode cX9_followsPlainly 27 = .ok (.iload_n 2, 1) := by decide +kernel
theorem dX9_followsPlainly_28 : decode cX9_followsPlainly 28 = .ok (.invokevirtual 206, 3) := by decide +kernel
theorem dX9_followsPlainly_31 : decode cX9_followsPlainly 31 = .ok (.invokestatic 178, 3) := by decide +kernel
theorem dX9_followsPlainly_34 : decode cX9_followsPlainly 34 = .ok (.ireturn, 1) := by decide +kernel
set_option maxRecDepth 20000 in
theorem ggX9_fewestStages_X9_questionError : GoodIn wsX9_fewestStages wsX9_questionError := goodIn_r _ [7, 8, 9, 10, 11, 12, 13, 14, 15, 16, 17, 6, 18, 19, 20, 21, 22, 333, 334, 335, 336, 337, 338, 339, 340, 341, 342, 343, 344, 345, 346, 347, 348] (by decide +kernel) (by decide +kernel)
set_option maxRecDepth 20000 in
theorem gX9_fewestStages_X9_questionError : GoodIn wsX9_fewestStages (wsV RX9 212 RX9 yX9_questionError wsX9_questionError) := goodIn_app (goodIn_of _ (by decide +kernel)) ggX9_fewestStages_X9_questionError
set_option maxRecDepth 20000 in
theorem ggX9_fewestStages_X9_lookAt_h : GoodIn wsX9_fewestStages [Cond.code yX9_lookAt cX9_lookAt 2 none] := goodIn_r _ [26] (by decide +kernel) (by decide +kernel)
set_option maxRecDepth 20000 in
theorem ggX9_fewestStages_X9_lookAt_0 : GoodIn wsX9_fewestStages wsX9_lookAt_r1 := goodIn_r _ [27, 8, 19, 1, 2, 28, 29, 30, 31, 32, 33, 34, 35, 36, 6, 37, 38, 39, 40, 41, 42, 43, 44, 45] (by decide +kernel) (by decide +kernel)
set_option maxRecDepth 20000 in
theorem ggX9_fewestStages_X9_lookAt_1 : GoodIn wsX9_fewestStages wsX9_lookAt_r2 := goodIn_r _ [46, 47, 48, 49, 50, 51, 52, 53, 54, 55, 56, 57, 58, 59, 60, 61, 62, 63, 64, 65, 66, 67, 68, 69] (by decide +kernel) (by decide +kernel)
set_option maxRecDepth 20000 in
theorem ggX9_fewestStages_X9_lookAt_2 : GoodIn wsX9_fewestStages wsX9_lookAt_r3 := goodIn_r _ [70, 71, 72, 73, 74, 75, 76, 77, 78, 79, 80, 81, 82, 83, 84, 85, 86, 87, 88, 89] (by decide +kernel) (by decide +kernel)
set_option maxRecDepth 20000 in
theorem ggX9_fewestStages_X9_lookAt_3 : GoodIn wsX9_fewestStages wsX90 := goodIn_r _ [333, 334, 335, 336, 337, 338, 339, 340, 341] (by decide +kernel) (by decide +kernel)
set_option maxRecDepth 20000 in
theorem ggX9_fewestStages_X9_lookAt_4 : GoodIn wsX9_fewestStages wsX70 := goodIn_r _ [342, 343, 344, 345, 346, 347, 348] (by decide +kernel) (by decide +kernel)
set_option maxRecDepth 20000 in
theorem ggX9_fewestStages_X9_lookAt_5 : GoodIn wsX9_fewestStages wsX40 := goodIn_r _ [349, 350, 351, 352, 353, 354, 355, 356] (by decide +kernel) (by decide +kernel)
set_option maxRecDepth 20000 in
theorem ggX9_fewestStages_X9_lookAt_6 : GoodIn wsX9_fewestStages wsX00 := goodIn_r _ [357, 358] (by decide +kernel) (by decide +kernel)
set_option maxRecDepth 20000 in
theorem ggX9_fewestStages_X9_lookAt_7 : GoodIn wsX9_fewestStages wsX60 := goodIn_r _ [359, 360, 361, 362, 363] (by decide +kernel) (by decide +kernel)
set_option maxRecDepth 20000 in
theorem ggX9_fewestStages_X9_lookAt_8 : GoodIn wsX9_fewestStages wsX50 := goodIn_r _ [364, 365, 366, 367, 368, 369, 370, 371, 372, 373] (by decide +kernel) (by decide +kernel)
set_option maxRecDepth 20000 in
theorem ggX9_fewestStages_X9_lookAt_9 : GoodIn wsX9_fewestStages wsX10 := goodIn_r _ [374, 375, 376, 377] (by decide +kernel) (by decide +kernel)
theorem ggX9_fewestStages_X9_lookAt : GoodIn wsX9_fewestStages wsX9_lookAt := goodIn_app ggX9_fewestStages_X9_lookAt_h (goodIn_app (goodIn_app (goodIn_app (goodIn_app (goodIn_app (goodIn_app (goodIn_app (goodIn_app ggX9_fewestStages_X9_lookAt_0 (goodIn_app ggX9_fewestStages_X9_lookAt_1 ggX9_fewestStages_X9_lookAt_2)) ggX9_fewestStages_X9_lookAt_3) ggX9_fewestStages_X9_lookAt_4) ggX9_fewestStages_X9_lookAt_5) ggX9_fewestStages_X9_lookAt_6) ggX9_fewestStages_X9_lookAt_7) ggX9_fewestStages_X9_lookAt_8) ggX9_fewestStages_X9_lookAt_9)
set_option maxRecDepth 20000 in
theorem gX9_fewestStages_X9_lookAt : GoodIn wsX9_fewestStages (wsV RX9 182 RX9 yX9_lookAt wsX9_lookAt) := goodIn_app (goodIn_of _ (by decide +kernel)) ggX9_fewestStages_X9_lookAt
set_option maxRecDepth 20000 in
theorem ggX9_fewestStages_X6_entailsPlainly : GoodIn wsX9_fewestStages wsX6_entailsPlainly := goodIn_r _ [93, 63, 94, 95, 96, 61, 97, 69, 98, 99, 100, 101, 75, 36, 6, 37, 102, 103, 104, 31, 105, 35, 49, 50, 359, 360, 361, 362, 363, 349, 350, 351, 352, 353, 354, 355, 356] (by decide +kernel) (by decide +kernel)
set_option maxRecDepth 20000 in
theorem gX9_fewestStages_X6_entailsPlainly : GoodIn wsX9_fewestStages (wsV RX9 206 RX6 yX6_entailsPlainly wsX6_entailsPlainly) := goodIn_app (goodIn_of _ (by decide +kernel)) ggX9_fewestStages_X6_entailsPlainly
set_option maxRecDepth 20000 in
theorem ggX9_fewestStages_X6_refutesWithTwo_h : GoodIn wsX9_fewestStages [Cond.code yX6_refutesWithTwo cX6_refutesWithTwo 5 (some .boolean)] := goodIn_r _ [109] (by decide +kernel) (by decide +kernel)
set_option maxRecDepth 20000 in
theorem ggX9_fewestStages_X6_refutesWithTwo_0 : GoodIn wsX9_fewestStages wsX6_refutesWithTwo_r1 := goodIn_r _ [110, 63, 111, 112, 113, 61, 114, 69, 115, 116, 117, 31, 118, 34, 119, 120, 121, 75, 74, 36, 6, 37, 98, 99] (by decide +kernel) (by decide +kernel)
set_option maxRecDepth 20000 in
theorem ggX9_fewestStages_X6_refutesWithTwo_1 : GoodIn wsX9_fewestStages wsX6_refutesWithTwo_r2 := goodIn_r _ [100, 101, 102, 103, 104, 105, 35, 49, 50, 122, 123, 124, 125, 65, 66, 67, 68, 70, 71, 72, 73, 94, 95, 96] (by decide +kernel) (by decide +kernel)
set_option maxRecDepth 20000 in
theorem ggX9_fewestStages_X6_refutesWithTwo_2 : GoodIn wsX9_fewestStages wsX6_refutesWithTwo_r3 := goodIn_r _ [97] (by decide +kernel) (by decide +kernel)
set_option maxRecDepth 20000 in
theorem ggX9_fewestStages_X6_refutesWithTwo_3 : GoodIn wsX9_fewestStages wsX60 := goodIn_r _ [359, 360, 361, 362, 363] (by decide +kernel) (by decide +kernel)
set_option maxRecDepth 20000 in
theorem ggX9_fewestStages_X6_refutesWithTwo_4 : GoodIn wsX9_fewestStages wsX40 := goodIn_r _ [349, 350, 351, 352, 353, 354, 355, 356] (by decide +kernel) (by decide +kernel)
theorem ggX9_fewestStages_X6_refutesWithTwo : GoodIn wsX9_fewestStages wsX6_refutesWithTwo := goodIn_app ggX9_fewestStages_X6_refutesWithTwo_h (goodIn_app (goodIn_app (goodIn_app ggX9_fewestStages_X6_refutesWithTwo_0 (goodIn_app ggX9_fewestStages_X6_refutesWithTwo_1 ggX9_fewestStages_X6_refutesWithTwo_2)) ggX9_fewestStages_X6_refutesWithTwo_3) ggX9_fewestStages_X6_refutesWithTwo_4)
set_option maxRecDepth 20000 in
theorem gX9_fewestStages_X6_refutesWithTwo : GoodIn wsX9_fewestStages (wsV RX9 216 RX6 yX6_refutesWithTwo wsX6_refutesWithTwo) := goodIn_app (goodIn_of _ (by decide +kernel)) ggX9_fewestStages_X6_refutesWithTwo
set_option maxRecDepth 20000 in
theorem ggX9_fewestStages_X5_isFound_h : GoodIn wsX9_fewestStages [Cond.code yX5_isFound cX5_isFound 4 (some .boolean)] := goodIn_r _ [129] (by decide +kernel) (by decide +kernel)
set_option maxRecDepth 20000 in
theorem ggX9_fewestStages_X5_isFound_0 : GoodIn wsX9_fewestStages wsX5_isFound_r1 := goodIn_r _ [130, 131, 132, 133, 134, 135, 136, 137, 138, 139, 140, 141, 142, 143, 144, 145, 49, 6, 50, 146, 147, 148, 149, 150] (by decide +kernel) (by decide +kernel)
set_option maxRecDepth 20000 in
theorem ggX9_fewestStages_X5_isFound_1 : GoodIn wsX9_fewestStages wsX5_isFound_r2 := goodIn_r _ [151, 152, 153, 154, 155, 79, 156, 157, 158, 159, 160, 161, 162, 163, 164, 165, 166, 167, 168, 169, 170, 171, 172, 173] (by decide +kernel) (by decide +kernel)
set_option maxRecDepth 20000 in
theorem ggX9_fewestStages_X5_isFound_2 : GoodIn wsX9_fewestStages wsX5_isFound_r3 := goodIn_r _ [174, 175, 176, 177, 178, 179, 180, 181, 61, 182, 63, 36, 37, 183, 103, 104, 31, 105, 35, 184, 185, 186, 187, 188] (by decide +kernel) (by decide +kernel)
set_option maxRecDepth 20000 in
theorem ggX9_fewestStages_X5_isFound_3 : GoodIn wsX9_fewestStages wsX5_isFound_r4 := goodIn_r _ [189, 190, 191, 192, 193, 82, 194, 195, 196, 197, 198, 199, 200, 201, 202, 33, 57, 203, 204, 205, 206, 207, 208, 209] (by decide +kernel) (by decide +kernel)
set_option maxRecDepth 20000 in
theorem ggX9_fewestStages_X5_isFound_4 : GoodIn wsX9_fewestStages wsX5_isFound_r5 := goodIn_r _ [210, 211, 212, 81, 213, 214, 215, 216, 217, 218, 219, 220, 221, 222, 223, 224, 225, 226, 227, 228, 229, 230, 231, 232] (by decide +kernel) (by decide +kernel)
set_option maxRecDepth 20000 in
theorem ggX9_fewestStages_X5_isFound_5 : GoodIn wsX9_fewestStages wsX5_isFound_r6 := goodIn_r _ [233, 234, 235, 236, 237, 238, 239, 240, 241, 242, 243, 244, 245, 246, 247, 248, 249, 250, 86, 251, 252, 253, 254, 255] (by decide +kernel) (by decide +kernel)
set_option maxRecDepth 20000 in
theorem ggX9_fewestStages_X5_isFound_6 : GoodIn wsX9_fewestStages wsX5_isFound_r7 := goodIn_r _ [256, 257, 258, 259, 260, 261, 262, 263, 264, 265, 266, 267, 268, 269, 270, 271, 272, 273, 274, 275, 276, 277, 278, 279] (by decide +kernel) (by decide +kernel)
set_option maxRecDepth 20000 in
theorem ggX9_fewestStages_X5_isFound_7 : GoodIn wsX9_fewestStages wsX5_isFound_r8 := goodIn_r _ [280, 281, 282, 283, 284, 285, 286, 287, 288, 289, 290, 291, 292, 293, 294, 295, 296, 297, 298, 299, 300, 301, 302, 303] (by decide +kernel) (by decide +kernel)
set_option maxRecDepth 20000 in
theorem ggX9_fewestStages_X5_isFound_8 : GoodIn wsX9_fewestStages wsX5_isFound_r9 := goodIn_r _ [304, 305, 306, 307, 308, 309, 310, 311, 312, 89, 313, 88, 314, 45, 46, 47, 315, 316, 317, 318, 319] (by decide +kernel) (by decide +kernel)
set_option maxRecDepth 20000 in
theorem ggX9_fewestStages_X5_isFound_9 : GoodIn wsX9_fewestStages wsX50 := goodIn_r _ [364, 365, 366, 367, 368, 369, 370, 371, 372, 373] (by decide +kernel) (by decide +kernel)
set_option maxRecDepth 20000 in
theorem ggX9_fewestStages_X5_isFound_10 : GoodIn wsX9_fewestStages wsX20 := goodIn_r _ [378, 379, 380, 381, 382] (by decide +kernel) (by decide +kernel)
set_option maxRecDepth 20000 in
theorem ggX9_fewestStages_X5_isFound_11 : GoodIn wsX9_fewestStages wsX30 := goodIn_r _ [383] (by decide +kernel) (by decide +kernel)
set_option maxRecDepth 20000 in
theorem ggX9_fewestStages_X5_isFound_12 : GoodIn wsX9_fewestStages wsX60 := goodIn_r _ [359, 360, 361, 362, 363] (by decide +kernel) (by decide +kernel)
set_option maxRecDepth 20000 in
theorem ggX9_fewestStages_X5_isFound_13 : GoodIn wsX9_fewestStages wsX40 := goodIn_r _ [349, 350, 351, 352, 353, 354, 355, 356] (by decide +kernel) (by decide +kernel)
set_option maxRecDepth 20000 in
theorem ggX9_fewestStages_X5_isFound_14 : GoodIn wsX9_fewestStages wsX10 := goodIn_r _ [374, 375, 376, 377] (by decide +kernel) (by decide +kernel)
theorem ggX9_fewestStages_X5_isFound : GoodIn wsX9_fewestStages wsX5_isFound := goodIn_app ggX9_fewestStages_X5_isFound_h (goodIn_app (goodIn_app (goodIn_app (goodIn_app (goodIn_app (goodIn_app (goodIn_app ggX9_fewestStages_X5_isFound_0 (goodIn_app ggX9_fewestStages_X5_isFound_1 (goodIn_app ggX9_fewestStages_X5_isFound_2 (goodIn_app ggX9_fewestStages_X5_isFound_3 (goodIn_app ggX9_fewestStages_X5_isFound_4 (goodIn_app ggX9_fewestStages_X5_isFound_5 (goodIn_app ggX9_fewestStages_X5_isFound_6 (goodIn_app ggX9_fewestStages_X5_isFound_7 ggX9_fewestStages_X5_isFound_8)))))))) ggX9_fewestStages_X5_isFound_9) ggX9_fewestStages_X5_isFound_10) ggX9_fewestStages_X5_isFound_11) ggX9_fewestStages_X5_isFound_12) ggX9_fewestStages_X5_isFound_13) ggX9_fewestStages_X5_isFound_14)
set_option maxRecDepth 20000 in
theorem gX9_fewestStages_X5_isFound : GoodIn wsX9_fewestStages (wsV RX9 203 RX5 yX5_isFound wsX5_isFound) := goodIn_app (goodIn_of _ (by decide +kernel)) ggX9_fewestStages_X5_isFound
set_option maxRecDepth 20000 in
theorem ggX9_fewestStages_X6_refutesWithThree_h : GoodIn wsX9_fewestStages [Cond.code yX6_refutesWithThree cX6_refutesWithThree 5 (some .boolean)] := goodIn_r _ [323] (by decide +kernel) (by decide +kernel)
set_option maxRecDepth 20000 in
theorem ggX9_fewestStages_X6_refutesWithThree_0 : GoodIn wsX9_fewestStages wsX6_refutesWithThree_r1 := goodIn_r _ [111, 112, 113, 61, 114, 69, 63, 115, 116, 117, 31, 118, 34, 119, 120, 121, 75, 74, 36, 6, 37, 98, 99, 100] (by decide +kernel) (by decide +kernel)
set_option maxRecDepth 20000 in
theorem ggX9_fewestStages_X6_refutesWithThree_1 : GoodIn wsX9_fewestStages wsX6_refutesWithThree_r2 := goodIn_r _ [101, 102, 103, 104, 105, 35, 49, 50, 324, 325, 326, 327, 328, 122, 123, 124, 125, 65, 66, 67, 68, 70, 71, 72] (by decide +kernel) (by decide +kernel)
set_option maxRecDepth 20000 in
theorem ggX9_fewestStages_X6_refutesWithThree_2 : GoodIn wsX9_fewestStages wsX6_refutesWithThree_r3 := goodIn_r _ [73, 94, 95, 96, 97, 329, 330, 331, 332, 110] (by decide +kernel) (by decide +kernel)
set_option maxRecDepth 20000 in
theorem ggX9_fewestStages_X6_refutesWithThree_3 : GoodIn wsX9_fewestStages wsX60 := goodIn_r _ [359, 360, 361, 362, 363] (by decide +kernel) (by decide +kernel)
set_option maxRecDepth 20000 in
theorem ggX9_fewestStages_X6_refutesWithThree_4 : GoodIn wsX9_fewestStages wsX40 := goodIn_r _ [349, 350, 351, 352, 353, 354, 355, 356] (by decide +kernel) (by decide +kernel)
theorem ggX9_fewestStages_X6_refutesWithThree : GoodIn wsX9_fewestStages wsX6_refutesWithThree := goodIn_app ggX9_fewestStages_X6_refutesWithThree_h (goodIn_app (goodIn_app (goodIn_app ggX9_fewestStages_X6_refutesWithThree_0 (goodIn_app ggX9_fewestStages_X6_refutesWithThree_1 ggX9_fewestStages_X6_refutesWithThree_2)) ggX9_fewestStages_X6_refutesWithThree_3) ggX9_fewestStages_X6_refutesWithThree_4)
set_option maxRecDepth 20000 in
theorem gX9_fewestStages_X6_refutesWithThree : GoodIn wsX9_fewestStages (wsV RX9 219 RX6 yX6_refutesWithThree wsX6_refutesWithThree) := goodIn_app (goodIn_of _ (by decide +kernel)) ggX9_fewestStages_X6_refutesWithThree
theorem dX9_fewestStages_0 : decode cX9_fewestStages 0 = .ok (.aload_n 0, 1) := by decide +kernel
theorem dX9_fewestStages_1 : decode cX9_fewestStages 1 = .ok (.iload_n 1, 1) := by decide +kernel
theorem dX9_fewestStages_2 : decode cX9_fewestStages 2 = .ok (.iload_n 2, 1) := by decide +kernel
theorem dX9_fewestStages_3 : decode cX9_fewestStages 3 = .ok (.invokevirtual 212, 3) := by decide +kernel
theorem dX9_fewestStages_6 : decode cX9_fewestStages 6 = .ok (.istore_n 3, 1) := by decide +kernel
theorem dX9_fewestStages_7 : decode cX9_fewestStages 7 = .ok (.iload_n 3, 1) := by decide +kernel
theorem dX9_fewestStages_8 : decode cX9_fewestStages 8 = .ok (.ifCond .eq 5, 3) := by decide +kernel
theorem dX9_fewestStages_11 : decode cX9_fewestStages 11 = .ok (.iload_n 3, 1) := by decide +kernel
theorem dX9_fewestStages_12 : decode cX9_fewestStages 12 = .ok (.ireturn, 1) := by decide +kernel
theorem dX9_fewestStages_13 : decode cX9_fewestStages 13 = .ok (.aload_n 0, 1) := by decide +kernel
theorem dX9_fewestStages_14 : decode cX9_fewestStages 14 = .ok (.iload_n 1, 1) := by decide +kernel
theorem dX9_fewestStages_15 : decode cX9_fewestStages 15 = .ok (.iconst 1, 1) := by decide +kernel
theorem dX9_fewestStages_16 : decode cX9_fewestStages 16 = .ok (.iload_n 2, 1) := by decide +kernel
theorem dX9_fewestStages_17 : decode cX9_fewestStages 17 = .ok (.ishl, 1) := by decide +kernel
theorem dX9_fewestStages_18 : decode cX9_fewestStages 18 = .ok (.ior, 1) := by decide +kernel
theorem dX9_fewestStages_19 : decode cX9_fewestStages 19 = .ok (.invokevirtual 182, 3) := by decide +kernel
theorem dX9_fewestStages_22 : decode cX9_fewestStages 22 = .ok (.aload_n 0, 1) := by decide +kernel
theorem dX9_fewestStages_23 : decode cX9_fewestStages 23 = .ok (.getfield 49, 3) := by decide +kernel
theorem dX9_fewestStages_26 : decode cX9_fewestStages 26 = .ok (.iload_n 1, 1) := by decide +kernel
theorem dX9_fewestStages_27 : decode cX9_fewestStages 27 = .ok (.iload_n 2, 1) := by decide +kernel
theorem dX9_fewestStages_28 : decode cX9_fewestStages 28 = .ok (.invokevirtual 206, 3) := by decide +kernel
theorem dX9_fewestStages_31 : decode cX9_fewestStages 31 = .ok (.ifCond .ne 5, 3) := by decide +kernel
theorem dX9_fewestStages_34 : decode cX9_fewestStages 34 = .ok (.iconst 1, 1) := by decide +kernel
theorem dX9_fewestStages_35 : decode cX9_fewestStages 35 = .ok (.ireturn, 1) := by decide +kernel
theorem dX9_fewestStages_36 : decode cX9_fewestStages 36 = .ok (.aload_n 0, 1) := by decide +kernel
theorem dX9_fewestStages_37 : decode cX9_fewestStages 37 = .ok (.getfield 49, 3) := by decide +kernel
theorem dX9_fewestStages_40 : decode cX9_fewestStages 40 = .ok (.iload_n 1, 1) := by decide +kernel
theorem dX9_fewestStages_41 : decode cX9_fewestStages 41 = .ok (.iload_n 2, 1) := by decide +kernel
theorem dX9_fewestStages_42 : decode cX9_fewestStages 42 = .ok (.invokevirtual 216, 3) := by decide +kernel
theorem dX9_fewestStages_45 : decode cX9_fewestStages 45 = .ok (.ifCond .eq 5, 3) := by decide +kernel
theorem dX9_fewestStages_48 : decode cX9_fewestStages 48 = .ok (.iconst 2, 1) := by decide +kernel
theorem dX9_fewestStages_49 : decode cX9_fewestStages 49 = .ok (.ireturn, 1) := by decide +kernel
theorem dX9_fewestStages_50 : decode cX9_fewestStages 50 = .ok (.aload_n 0, 1) := by decide +kernel
theorem dX9_fewestStages_51 : decode cX9_fewestStages 51 = .ok (.getfield 41, 3) := by decide +kernel
theorem dX9_fewestStages_54 : decode cX9_fewestStages 54 = .ok (.iload_n 1, 1) := by decide +kernel
theorem dX9_fewestStages_55 : decode cX9_fewestStages 55 = .ok (.iload_n 2, 1) := by decide +kernel
theorem dX9_fewestStages_56 : decode cX9_fewestStages 56 = .ok (.invokevirtual 203, 3) := by decide +kernel
theorem dX9_fewestStages_59 : decode cX9_fewestStages 59 = .ok (.ifCond .ne 19, 3) := by decide +kernel
theorem dX9_fewestStages_62 : decode cX9_fewestStages 62 = .ok (.aload_n 0, 1) := by decide +kernel
theorem dX9_fewestStages_63 : decode cX9_fewestStages 63 = .ok (.getfield 49, 3) := by decide +kernel
theorem dX9_fewestStages_66 : decode cX9_fewestStages 66 = .ok (.iload_n 1, 1) := by decide +kernel
theorem dX9_fewestStages_67 : decode cX9_fewestStages 67 = .ok (.iload_n 2, 1) := by decide +kernel
theorem dX9_fewestStages_68 : decode cX9_fewestStages 68 = .ok (.invokevirtual 219, 3) := by decide +kernel
theorem dX9_fewestStages_71 : decode cX9_fewestStages 71 = .ok (.ifCond .eq 7, 3) := by decide +kernel
theorem dX9_fewestStages_74 : decode cX9_fewestStages 74 = .ok (.iconst 3, 1) := by decide +kernel
theorem dX9_fewestStages_75 : decode cX9_fewestStages 75 = .ok (.goto 5, 3) := by decide +kernel
theorem dX9_fewestStages_78 : decode cX9_fewestStages 78 = .ok (.bipush (-5), 2) := by decide +kernel
theorem dX9_fewestStages_80 : decode cX9_fewestStages 80 = .ok (.ireturn, 1) := by decide +kernel
set_option maxRecDepth 20000 in
theorem ggX9_fewestPremises_X9_questionError : GoodIn wsX9_fewestPremises wsX9_questionError := goodIn_r _ [6, 7, 8, 9, 10, 11, 12, 13, 14, 15, 16, 5, 17, 18, 19, 20, 21, 294, 295, 296, 297, 298, 299, 300, 301, 302, 303, 304, 305, 306, 307, 308, 309] (by decide +kernel) (by decide +kernel)
set_option maxRecDepth 20000 in
theorem gX9_fewestPremises_X9_questionError : GoodIn wsX9_fewestPremises (wsV RX9 212 RX9 yX9_questionError wsX9_questionError) := goodIn_app (goodIn_of _ (by decide +kernel)) ggX9_fewestPremises_X9_questionError
set_option maxRecDepth 20000 in
theorem ggX9_fewestPremises_X9_lookAt_h : GoodIn wsX9_fewestPremises [Cond.code yX9_lookAt cX9_lookAt 2 none] := goodIn_r _ [25] (by decide +kernel) (by decide +kernel)
set_option maxRecDepth 20000 in
theorem ggX9_fewestPremises_X9_lookAt_0 : GoodIn wsX9_fewestPremises wsX9_lookAt_r1 := goodIn_r _ [26, 7, 18, 27, 1, 28, 29, 30, 31, 32, 33, 34, 35, 36, 5, 37, 38, 39, 40, 41, 42, 43, 44, 45] (by decide +kernel) (by decide +kernel)
set_option maxRecDepth 20000 in
theorem ggX9_fewestPremises_X9_lookAt_1 : GoodIn wsX9_fewestPremises wsX9_lookAt_r2 := goodIn_r _ [46, 47, 48, 49, 50, 51, 52, 53, 54, 55, 56, 57, 58, 59, 60, 61, 62, 63, 64, 65, 66, 67, 68, 69] (by decide +kernel) (by decide +kernel)
set_option maxRecDepth 20000 in
theorem ggX9_fewestPremises_X9_lookAt_2 : GoodIn wsX9_fewestPremises wsX9_lookAt_r3 := goodIn_r _ [70, 71, 72, 73, 74, 75, 76, 77, 78, 79, 80, 81, 82, 83, 84, 85, 86, 87, 88, 89] (by decide +kernel) (by decide +kernel)
set_option maxRecDepth 20000 in
theorem ggX9_fewestPremises_X9_lookAt_3 : GoodIn wsX9_fewestPremises wsX90 := goodIn_r _ [294, 295, 296, 297, 298, 299, 300, 301, 302] (by decide +kernel) (by decide +kernel)
set_option maxRecDepth 20000 in
theorem ggX9_fewestPremises_X9_lookAt_4 : GoodIn wsX9_fewestPremises wsX70 := goodIn_r _ [303, 304, 305, 306, 307, 308, 309] (by decide +kernel) (by decide +kernel)
set_option maxRecDepth 20000 in
theorem ggX9_fewestPremises_X9_lookAt_5 : GoodIn wsX9_fewestPremises wsX40 := goodIn_r _ [310, 311, 312, 313, 314, 315, 316, 317] (by decide +kernel) (by decide +kernel)
set_option maxRecDepth 20000 in
theorem ggX9_fewestPremises_X9_lookAt_6 : GoodIn wsX9_fewestPremises wsX00 := goodIn_r _ [318, 319] (by decide +kernel) (by decide +kernel)
set_option maxRecDepth 20000 in
theorem ggX9_fewestPremises_X9_lookAt_7 : GoodIn wsX9_fewestPremises wsX60 := goodIn_r _ [320, 321, 322, 323, 324] (by decide +kernel) (by decide +kernel)
set_option maxRecDepth 20000 in
theorem ggX9_fewestPremises_X9_lookAt_8 : GoodIn wsX9_fewestPremises wsX50 := goodIn_r _ [325, 326, 327, 328, 329, 330, 331, 332, 333, 334] (by decide +kernel) (by decide +kernel)
set_option maxRecDepth 20000 in
theorem ggX9_fewestPremises_X9_lookAt_9 : GoodIn wsX9_fewestPremises wsX10 := goodIn_r _ [335, 336, 337, 338] (by decide +kernel) (by decide +kernel)
theorem ggX9_fewestPremises_X9_lookAt : GoodIn wsX9_fewestPremises wsX9_lookAt := goodIn_app ggX9_fewestPremises_X9_lookAt_h (goodIn_app (goodIn_app (goodIn_app (goodIn_app (goodIn_app (goodIn_app (goodIn_app (goodIn_app ggX9_fewestPremises_X9_lookAt_0 (goodIn_app ggX9_fewestPremises_X9_lookAt_1 ggX9_fewestPremises_X9_lookAt_2)) ggX9_fewestPremises_X9_lookAt_3) ggX9_fewestPremises_X9_lookAt_4) ggX9_fewestPremises_X9_lookAt_5) ggX9_fewestPremises_X9_lookAt_6) ggX9_fewestPremises_X9_lookAt_7) ggX9_fewestPremises_X9_lookAt_8) ggX9_fewestPremises_X9_lookAt_9)
set_option maxRecDepth 20000 in
theorem gX9_fewestPremises_X9_lookAt : GoodIn wsX9_fewestPremises (wsV RX9 182 RX9 yX9_lookAt wsX9_lookAt) := goodIn_app (goodIn_of _ (by decide +kernel)) ggX9_fewestPremises_X9_lookAt
set_option maxRecDepth 20000 in
theorem ggX9_fewestPremises_X5_isFound_h : GoodIn wsX9_fewestPremises [Cond.code yX5_isFound cX5_isFound 4 (some .boolean)] := goodIn_r _ [93] (by decide +kernel) (by decide +kernel)
set_option maxRecDepth 20000 in
theorem ggX9_fewestPremises_X5_isFound_0 : GoodIn wsX9_fewestPremises wsX5_isFound_r1 := goodIn_r _ [94, 95, 96, 97, 98, 99, 100, 101, 102, 103, 104, 105, 106, 107, 108, 109, 49, 5, 50, 110, 111, 112, 113, 114] (by decide +kernel) (by decide +kernel)
set_option maxRecDepth 20000 in
theorem ggX9_fewestPremises_X5_isFound_1 : GoodIn wsX9_fewestPremises wsX5_isFound_r2 := goodIn_r _ [115, 116, 117, 118, 119, 79, 120, 121, 122, 123, 124, 125, 126, 127, 128, 129, 130, 131, 132, 133, 134, 135, 136, 137] (by decide +kernel) (by decide +kernel)
set_option maxRecDepth 20000 in
theorem ggX9_fewestPremises_X5_isFound_2 : GoodIn wsX9_fewestPremises wsX5_isFound_r3 := goodIn_r _ [138, 139, 140, 141, 142, 143, 144, 145, 61, 146, 63, 36, 37, 147, 148, 149, 31, 150, 35, 151, 152, 153, 154, 155] (by decide +kernel) (by decide +kernel)
set_option maxRecDepth 20000 in
theorem ggX9_fewestPremises_X5_isFound_3 : GoodIn wsX9_fewestPremises wsX5_isFound_r4 := goodIn_r _ [156, 157, 158, 159, 160, 82, 161, 162, 163, 164, 165, 166, 167, 168, 169, 33, 57, 170, 171, 172, 173, 174, 175, 176] (by decide +kernel) (by decide +kernel)
set_option maxRecDepth 20000 in
theorem ggX9_fewestPremises_X5_isFound_4 : GoodIn wsX9_fewestPremises wsX5_isFound_r5 := goodIn_r _ [177, 178, 179, 81, 180, 181, 182, 183, 184, 185, 186, 187, 188, 189, 190, 191, 192, 193, 194, 195, 196, 197, 198, 199] (by decide +kernel) (by decide +kernel)
set_option maxRecDepth 20000 in
theorem ggX9_fewestPremises_X5_isFound_5 : GoodIn wsX9_fewestPremises wsX5_isFound_r6 := goodIn_r _ [200, 201, 202, 203, 204, 205, 206, 207, 208, 209, 210, 211, 212, 213, 214, 215, 216, 217, 86, 218, 219, 220, 221, 222] (by decide +kernel) (by decide +kernel)
set_option maxRecDepth 20000 in
theorem ggX9_fewestPremises_X5_isFound_6 : GoodIn wsX9_fewestPremises wsX5_isFound_r7 := goodIn_r _ [223, 224, 225, 226, 227, 228, 229, 230, 231, 232, 233, 234, 235, 236, 237, 238, 239, 240, 241, 242, 243, 244, 245, 246] (by decide +kernel) (by decide +kernel)
set_option maxRecDepth 20000 in
theorem ggX9_fewestPremises_X5_isFound_7 : GoodIn wsX9_fewestPremises wsX5_isFound_r8 := goodIn_r _ [247, 248, 249, 250, 251, 252, 253, 254, 255, 256, 257, 258, 259, 260, 261, 262, 263, 264, 265, 266, 267, 268, 269, 270] (by decide +kernel) (by decide +kernel)
set_option maxRecDepth 20000 in
theorem ggX9_fewestPremises_X5_isFound_8 : GoodIn wsX9_fewestPremises wsX5_isFound_r9 := goodIn_r _ [271, 272, 273, 274, 275, 276, 277, 278, 279, 89, 280, 88, 281, 45, 46, 47, 282, 283, 284, 285, 286] (by decide +kernel) (by decide +kernel)
set_option maxRecDepth 20000 in
theorem ggX9_fewestPremises_X5_isFound_9 : GoodIn wsX9_fewestPremises wsX50 := goodIn_r _ [325, 326, 327, 328, 329, 330, 331, 332, 333, 334] (by decide +kernel) (by decide +kernel)
set_option maxRecDepth 20000 in
theorem ggX9_fewestPremises_X5_isFound_10 : GoodIn wsX9_fewestPremises wsX20 := goodIn_r _ [339, 340, 341, 342, 343] (by decide +kernel) (by decide +kernel)
set_option maxRecDepth 20000 in
theorem ggX9_fewestPremises_X5_isFound_11 : GoodIn wsX9_fewestPremises wsX30 := goodIn_r _ [344] (by decide +kernel) (by decide +kernel)
set_option maxRecDepth 20000 in
theorem ggX9_fewestPremises_X5_isFound_12 : GoodIn wsX9_fewestPremises wsX60 := goodIn_r _ [320, 321, 322, 323, 324] (by decide +kernel) (by decide +kernel)
set_option maxRecDepth 20000 in
theorem ggX9_fewestPremises_X5_isFound_13 : GoodIn wsX9_fewestPremises wsX40 := goodIn_r _ [310, 311, 312, 313, 314, 315, 316, 317] (by decide +kernel) (by decide +kernel)
set_option maxRecDepth 20000 in
theorem ggX9_fewestPremises_X5_isFound_14 : GoodIn wsX9_fewestPremises wsX10 := goodIn_r _ [335, 336, 337, 338] (by decide +kernel) (by decide +kernel)
theorem ggX9_fewestPremises_X5_isFound : GoodIn wsX9_fewestPremises wsX5_isFound := goodIn_app ggX9_fewestPremises_X5_isFound_h (goodIn_app (goodIn_app (goodIn_app (goodIn_app (goodIn_app (goodIn_app (goodIn_app ggX9_fewestPremises_X5_isFound_0 (goodIn_app ggX9_fewestPremises_X5_isFound_1 (goodIn_app ggX9_fewestPremises_X5_isFound_2 (goodIn_app ggX9_fewestPremises_X5_isFound_3 (goodIn_app ggX9_fewestPremises_X5_isFound_4 (goodIn_app ggX9_fewestPremises_X5_isFound_5 (goodIn_app ggX9_fewestPremises_X5_isFound_6 (goodIn_app ggX9_fewestPremises_X5_isFound_7 ggX9_fewestPremises_X5_isFound_8)))))))) ggX9_fewestPremises_X5_isFound_9) ggX9_fewestPremises_X5_isFound_10) ggX9_fewestPremises_X5_isFound_11) ggX9_fewestPremises_X5_isFound_12) ggX9_fewestPremises_X5_isFound_13) ggX9_fewestPremises_X5_isFound_14)
set_option maxRecDepth 20000 in
theorem gX9_fewestPremises_X5_isFound : GoodIn wsX9_fewestPremises (wsV RX9 203 RX5 yX5_isFound wsX5_isFound) := goodIn_app (goodIn_of _ (by decide +kernel)) ggX9_fewestPremises_X5_isFound
set_option maxRecDepth 20000 in
theorem ggX9_fewestPremises_J6_bitCount_0f7a4 : GoodIn wsX9_fewestPremises wsJ6_bitCount_0f7a4 := goodIn_r _ [290, 291, 292, 293] (by decide +kernel) (by decide +kernel)
set_option maxRecDepth 20000 in
theorem gX9_fewestPremises_J6_bitCount_0f7a4 : GoodIn wsX9_fewestPremises (va_wsS RX9 152 yJ6_bitCount_0f7a4 wsJ6_bitCount_0f7a4) := goodIn_app (goodIn_of _ (by decide +kernel)) ggX9_fewestPremises_J6_bitCount_0f7a4
theorem dX9_fewestPremises_0 : decode cX9_fewestPremises 0 = .ok (.aload_n 0, 1) := by decide +kernel
theorem dX9_fewestPremises_1 : decode cX9_fewestPremises 1 = .ok (.iload_n 1, 1) := by decide +kernel
theorem dX9_fewestPremises_2 : decode cX9_fewestPremises 2 = .ok (.iload_n 2, 1) := by decide +kernel
theorem dX9_fewestPremises_3 : decode cX9_fewestPremises 3 = .ok (.invokevirtual 212, 3) := by decide +kernel
theorem dX9_fewestPremises_6 : decode cX9_fewestPremises 6 = .ok (.istore_n 3, 1) := by decide +kernel
theorem dX9_fewestPremises_7 : decode cX9_fewestPremises 7 = .ok (.iload_n 3, 1) := by decide +kernel
theorem dX9_fewestPremises_8 : decode cX9_fewestPremises 8 = .ok (.ifCond .eq 5, 3) := by decide +kernel
theorem dX9_fewestPremises_11 : decode cX9_fewestPremises 11 = .ok (.iload_n 3, 1) := by decide +kernel
theorem dX9_fewestPremises_12 : decode cX9_fewestPremises 12 = .ok (.ireturn, 1) := by decide +kernel
theorem dX9_fewestPremises_13 : decode cX9_fewestPremises 13 = .ok (.aload_n 0, 1) := by decide +kernel
theorem dX9_fewestPremises_14 : decode cX9_fewestPremises 14 = .ok (.iload_n 1, 1) := by decide +kernel
theorem dX9_fewestPremises_15 : decode cX9_fewestPremises 15 = .ok (.iconst 1, 1) := by decide +kernel
theorem dX9_fewestPremises_16 : decode cX9_fewestPremises 16 = .ok (.iload_n 2, 1) := by decide +kernel
theorem dX9_fewestPremises_17 : decode cX9_fewestPremises 17 = .ok (.ishl, 1) := by decide +kernel
theorem dX9_fewestPremises_18 : decode cX9_fewestPremises 18 = .ok (.ior, 1) := by decide +kernel
theorem dX9_fewestPremises_19 : decode cX9_fewestPremises 19 = .ok (.invokevirtual 182, 3) := by decide +kernel
theorem dX9_fewestPremises_22 : decode cX9_fewestPremises 22 = .ok (.aload_n 0, 1) := by decide +kernel
theorem dX9_fewestPremises_23 : decode cX9_fewestPremises 23 = .ok (.getfield 41, 3) := by decide +kernel
theorem dX9_fewestPremises_26 : decode cX9_fewestPremises 26 = .ok (.iload_n 1, 1) := by decide +kernel
theorem dX9_fewestPremises_27 : decode cX9_fewestPremises 27 = .ok (.iload_n 2, 1) := by decide +kernel
theorem dX9_fewestPremises_28 : decode cX9_fewestPremises 28 = .ok (.invokevirtual 203, 3) := by decide +kernel
theorem dX9_fewestPremises_31 : decode cX9_fewestPremises 31 = .ok (.ifCond .ne 6, 3) := by decide +kernel
theorem dX9_fewestPremises_34 : decode cX9_fewestPremises 34 = .ok (.bipush (-4), 2) := by decide +kernel
theorem dX9_fewestPremises_36 : decode cX9_fewestPremises 36 = .ok (.ireturn, 1) := by decide +kernel
theorem dX9_fewestPremises_37 : decode cX9_fewestPremises 37 = .ok (.iconst 0, 1) := by decide +kernel
theorem dX9_fewestPremises_38 : decode cX9_fewestPremises 38 = .ok (.istore 4, 2) := by decide +kernel
theorem dX9_fewestPremises_40 : decode cX9_fewestPremises 40 = .ok (.iload 4, 2) := by decide +kernel
theorem dX9_fewestPremises_42 : decode cX9_fewestPremises 42 = .ok (.iconst 5, 1) := by decide +kernel
theorem dX9_fewestPremises_43 : decode cX9_fewestPremises 43 = .ok (.if_icmp .ge 59, 3) := by decide +kernel
theorem dX9_fewestPremises_46 : decode cX9_fewestPremises 46 = .ok (.iconst 0, 1) := by decide +kernel
theorem dX9_fewestPremises_47 : decode cX9_fewestPremises 47 = .ok (.istore 5, 2) := by decide +kernel
theorem dX9_fewestPremises_49 : decode cX9_fewestPremises 49 = .ok (.iload 5, 2) := by decide +kernel
theorem dX9_fewestPremises_51 : decode cX9_fewestPremises 51 = .ok (.iload_n 1, 1) := by decide +kernel
theorem dX9_fewestPremises_52 : decode cX9_fewestPremises 52 = .ok (.if_icmp .ge 44, 3) := by decide +kernel
theorem dX9_fewestPremises_55 : decode cX9_fewestPremises 55 = .ok (.iload 5, 2) := by decide +kernel
theorem dX9_fewestPremises_57 : decode cX9_fewestPremises 57 = .ok (.iload_n 1, 1) := by decide +kernel
theorem dX9_fewestPremises_58 : decode cX9_fewestPremises 58 = .ok (.iconst (-1), 1) := by decide +kernel
theorem dX9_fewestPremises_59 : decode cX9_fewestPremises 59 = .ok (.ixor, 1) := by decide +kernel
theorem dX9_fewestPremises_60 : decode cX9_fewestPremises 60 = .ok (.iand, 1) := by decide +kernel
theorem dX9_fewestPremises_61 : decode cX9_fewestPremises 61 = .ok (.ifCond .ne 29, 3) := by decide +kernel
theorem dX9_fewestPremises_64 : decode cX9_fewestPremises 64 = .ok (.iload 5, 2) := by decide +kernel
theorem dX9_fewestPremises_66 : decode cX9_fewestPremises 66 = .ok (.invokestatic 152, 3) := by decide +kernel
theorem dX9_fewestPremises_69 : decode cX9_fewestPremises 69 = .ok (.iload 4, 2) := by decide +kernel
theorem dX9_fewestPremises_71 : decode cX9_fewestPremises 71 = .ok (.if_icmp .ne 19, 3) := by decide +kernel
theorem dX9_fewestPremises_74 : decode cX9_fewestPremises 74 = .ok (.aload_n 0, 1) := by decide +kernel
theorem dX9_fewestPremises_75 : decode cX9_fewestPremises 75 = .ok (.getfield 41, 3) := by decide +kernel
theorem dX9_fewestPremises_78 : decode cX9_fewestPremises 78 = .ok (.iload 5, 2) := by decide +kernel
theorem dX9_fewestPremises_80 : decode cX9_fewestPremises 80 = .ok (.iload_n 2, 1) := by decide +kernel
theorem dX9_fewestPremises_81 : decode cX9_fewestPremises 81 = .ok (.invokevirtual 203, 3) := by decide +kernel
theorem dX9_fewestPremises_84 : decode cX9_fewestPremises 84 = .ok (.ifCond .eq 6, 3) := by decide +kernel
theorem dX9_fewestPremises_87 : decode cX9_fewestPremises 87 = .ok (.iload 5, 2) := by decide +kernel
theorem dX9_fewestPremises_89 : decode cX9_fewestPremises 89 = .ok (.ireturn, 1) := by decide +kernel
theorem dX9_fewestPremises_90 : decode cX9_fewestPremises 90 = .ok (.iinc 5 1, 3) := by decide +kernel
theorem dX9_fewestPremises_93 : decode cX9_fewestPremises 93 = .ok (.goto (-44), 3) := by decide +kernel
theorem dX9_fewestPremises_96 : decode cX9_fewestPremises 96 = .ok (.iinc 4 1, 3) := by decide +kernel
theorem dX9_fewestPremises_99 : decode cX9_fewestPremises 99 = .ok (.goto (-59), 3) := by decide +kernel
theorem dX9_fewestPremises_102 : decode cX9_fewestPremises 102 = .ok (.iload_n 1, 1) := by decide +kernel
theorem dX9_fewestPremises_103 : decode cX9_fewestPremises 103 = .ok (.ireturn, 1) := by decide +kernel
set_option maxRecDepth 20000 in
theorem ggX9_relation_X9_claimAt : GoodIn wsX9_relation wsX9_claimAt := goodIn_r _ [6, 7, 8, 9, 10, 5, 11, 280, 281, 282, 283, 284, 285, 286, 287, 288, 289, 290, 291, 292, 293, 294, 295] (by decide +kernel) (by decide +kernel)
set_option maxRecDepth 20000 in
theorem gX9_relation_X9_claimAt : GoodIn wsX9_relation (wsV RX9 132 RX9 yX9_claimAt wsX9_claimAt) := goodIn_app (goodIn_of _ (by decide +kernel)) ggX9_relation_X9_claimAt
set_option maxRecDepth 20000 in
theorem ggX9_relation_X9_lookAt_h : GoodIn wsX9_relation [Cond.code yX9_lookAt cX9_lookAt 2 none] := goodIn_r _ [15] (by decide +kernel) (by decide +kernel)
set_option maxRecDepth 20000 in
theorem ggX9_relation_X9_lookAt_0 : GoodIn wsX9_relation wsX9_lookAt_r1 := goodIn_r _ [16, 7, 8, 17, 1, 18, 19, 20, 21, 22, 23, 24, 25, 26, 5, 27, 28, 29, 30, 31, 32, 33, 34, 35] (by decide +kernel) (by decide +kernel)
set_option maxRecDepth 20000 in
theorem ggX9_relation_X9_lookAt_1 : GoodIn wsX9_relation wsX9_lookAt_r2 := goodIn_r _ [36, 37, 38, 39, 40, 41, 42, 43, 44, 45, 46, 47, 48, 49, 50, 51, 52, 53, 54, 55, 56, 57, 58, 59] (by decide +kernel) (by decide +kernel)
set_option maxRecDepth 20000 in
theorem ggX9_relation_X9_lookAt_2 : GoodIn wsX9_relation wsX9_lookAt_r3 := goodIn_r _ [60, 61, 62, 63, 64, 65, 66, 67, 68, 69, 70, 71, 72, 73, 74, 75, 76, 77, 78, 79] (by decide +kernel) (by decide +kernel)
set_option maxRecDepth 20000 in
theorem ggX9_relation_X9_lookAt_3 : GoodIn wsX9_relation wsX90 := goodIn_r _ [280, 281, 282, 283, 284, 285, 286, 287, 288] (by decide +kernel) (by decide +kernel)
set_option maxRecDepth 20000 in
theorem ggX9_relation_X9_lookAt_4 : GoodIn wsX9_relation wsX70 := goodIn_r _ [289, 290, 291, 292, 293, 294, 295] (by decide +kernel) (by decide +kernel)
set_option maxRecDepth 20000 in
theorem ggX9_relation_X9_lookAt_5 : GoodIn wsX9_relation wsX40 := goodIn_r _ [296, 297, 298, 299, 300, 301, 302, 303] (by decide +kernel) (by decide +kernel)
set_option maxRecDepth 20000 in
theorem ggX9_relation_X9_lookAt_6 : GoodIn wsX9_relation wsX00 := goodIn_r _ [304, 305] (by decide +kernel) (by decide +kernel)
set_option maxRecDepth 20000 in
theorem ggX9_relation_X9_lookAt_7 : GoodIn wsX9_relation wsX60 := goodIn_r _ [306, 307, 308, 309, 310] (by decide +kernel) (by decide +kernel)
set_option maxRecDepth 20000 in
theorem ggX9_relation_X9_lookAt_8 : GoodIn wsX9_relation wsX50 := goodIn_r _ [311, 312, 313, 314, 315, 316, 317, 318, 319, 320] (by decide +kernel) (by decide +kernel)
set_option maxRecDepth 20000 in
theorem ggX9_relation_X9_lookAt_9 : GoodIn wsX9_relation wsX10 := goodIn_r _ [321, 322, 323, 324] (by decide +kernel) (by decide +kernel)
theorem ggX9_relation_X9_lookAt : GoodIn wsX9_relation wsX9_lookAt := goodIn_app ggX9_relation_X9_lookAt_h (goodIn_app (goodIn_app (goodIn_app (goodIn_app (goodIn_app (goodIn_app (goodIn_app (goodIn_app ggX9_relation_X9_lookAt_0 (goodIn_app ggX9_relation_X9_lookAt_1 ggX9_relation_X9_lookAt_2)) ggX9_relation_X9_lookAt_3) ggX9_relation_X9_lookAt_4) ggX9_relation_X9_lookAt_5) ggX9_relation_X9_lookAt_6) ggX9_relation_X9_lookAt_7) ggX9_relation_X9_lookAt_8) ggX9_relation_X9_lookAt_9)
set_option maxRecDepth 20000 in
theorem gX9_relation_X9_lookAt : GoodIn wsX9_relation (wsV RX9 182 RX9 yX9_lookAt wsX9_lookAt) := goodIn_app (goodIn_of _ (by decide +kernel)) ggX9_relation_X9_lookAt
set_option maxRecDepth 20000 in
theorem ggX9_relation_X5_isFound_h : GoodIn wsX9_relation [Cond.code yX5_isFound cX5_isFound 4 (some .boolean)] := goodIn_r _ [83] (by decide +kernel) (by decide +kernel)
set_option maxRecDepth 20000 in
theorem ggX9_relation_X5_isFound_0 : GoodIn wsX9_relation wsX5_isFound_r1 := goodIn_r _ [84, 85, 86, 87, 88, 89, 90, 91, 92, 93, 94, 95, 96, 97, 98, 99, 39, 5, 40, 100, 101, 102, 103, 104] (by decide +kernel) (by decide +kernel)
set_option maxRecDepth 20000 in
theorem ggX9_relation_X5_isFound_1 : GoodIn wsX9_relation wsX5_isFound_r2 := goodIn_r _ [105, 106, 107, 108, 109, 69, 110, 111, 112, 113, 114, 115, 116, 117, 118, 119, 120, 121, 122, 123, 124, 125, 126, 127] (by decide +kernel) (by decide +kernel)
set_option maxRecDepth 20000 in
theorem ggX9_relation_X5_isFound_2 : GoodIn wsX9_relation wsX5_isFound_r3 := goodIn_r _ [128, 129, 130, 131, 132, 133, 134, 135, 51, 136, 53, 26, 27, 137, 138, 139, 21, 140, 25, 141, 142, 143, 144, 145] (by decide +kernel) (by decide +kernel)
set_option maxRecDepth 20000 in
theorem ggX9_relation_X5_isFound_3 : GoodIn wsX9_relation wsX5_isFound_r4 := goodIn_r _ [146, 147, 148, 149, 150, 72, 151, 152, 153, 154, 155, 156, 157, 158, 159, 23, 47, 160, 161, 162, 163, 164, 165, 166] (by decide +kernel) (by decide +kernel)
set_option maxRecDepth 20000 in
theorem ggX9_relation_X5_isFound_4 : GoodIn wsX9_relation wsX5_isFound_r5 := goodIn_r _ [167, 168, 169, 71, 170, 171, 172, 173, 174, 175, 176, 177, 178, 179, 180, 181, 182, 183, 184, 185, 186, 187, 188, 189] (by decide +kernel) (by decide +kernel)
set_option maxRecDepth 20000 in
theorem ggX9_relation_X5_isFound_5 : GoodIn wsX9_relation wsX5_isFound_r6 := goodIn_r _ [190, 191, 192, 193, 194, 195, 196, 197, 198, 199, 200, 201, 202, 203, 204, 205, 206, 207, 76, 208, 209, 210, 211, 212] (by decide +kernel) (by decide +kernel)
set_option maxRecDepth 20000 in
theorem ggX9_relation_X5_isFound_6 : GoodIn wsX9_relation wsX5_isFound_r7 := goodIn_r _ [213, 214, 215, 216, 217, 218, 219, 220, 221, 222, 223, 224, 225, 226, 227, 228, 229, 230, 231, 232, 233, 234, 235, 236] (by decide +kernel) (by decide +kernel)
set_option maxRecDepth 20000 in
theorem ggX9_relation_X5_isFound_7 : GoodIn wsX9_relation wsX5_isFound_r8 := goodIn_r _ [237, 238, 239, 240, 241, 242, 243, 244, 245, 246, 247, 248, 249, 250, 251, 252, 253, 254, 255, 256, 257, 258, 259, 260] (by decide +kernel) (by decide +kernel)
set_option maxRecDepth 20000 in
theorem ggX9_relation_X5_isFound_8 : GoodIn wsX9_relation wsX5_isFound_r9 := goodIn_r _ [261, 262, 263, 264, 265, 266, 267, 268, 269, 79, 270, 78, 271, 35, 36, 37, 272, 273, 274, 275, 276] (by decide +kernel) (by decide +kernel)
set_option maxRecDepth 20000 in
theorem ggX9_relation_X5_isFound_9 : GoodIn wsX9_relation wsX50 := goodIn_r _ [311, 312, 313, 314, 315, 316, 317, 318, 319, 320] (by decide +kernel) (by decide +kernel)
set_option maxRecDepth 20000 in
theorem ggX9_relation_X5_isFound_10 : GoodIn wsX9_relation wsX20 := goodIn_r _ [325, 326, 327, 328, 329] (by decide +kernel) (by decide +kernel)
set_option maxRecDepth 20000 in
theorem ggX9_relation_X5_isFound_11 : GoodIn wsX9_relation wsX30 := goodIn_r _ [330] (by decide +kernel) (by decide +kernel)
set_option maxRecDepth 20000 in
theorem ggX9_relation_X5_isFound_12 : GoodIn wsX9_relation wsX60 := goodIn_r _ [306, 307, 308, 309, 310] (by decide +kernel) (by decide +kernel)
set_option maxRecDepth 20000 in
theorem ggX9_relation_X5_isFound_13 : GoodIn wsX9_relation wsX40 := goodIn_r _ [296, 297, 298, 299, 300, 301, 302, 303] (by decide +kernel) (by decide +kernel)
set_option maxRecDepth 20000 in
theorem ggX9_relation_X5_isFound_14 : GoodIn wsX9_relation wsX10 := goodIn_r _ [321, 322, 323, 324] (by decide +kernel) (by decide +kernel)
theorem ggX9_relation_X5_isFound : GoodIn wsX9_relation wsX5_isFound := goodIn_app ggX9_relation_X5_isFound_h (goodIn_app (goodIn_app (goodIn_app (goodIn_app (goodIn_app (goodIn_app (goodIn_app ggX9_relation_X5_isFound_0 (goodIn_app ggX9_relation_X5_isFound_1 (goodIn_app ggX9_relation_X5_isFound_2 (goodIn_app ggX9_relation_X5_isFound_3 (goodIn_app ggX9_relation_X5_isFound_4 (goodIn_app ggX9_relation_X5_isFound_5 (goodIn_app ggX9_relation_X5_isFound_6 (goodIn_app ggX9_relation_X5_isFound_7 ggX9_relation_X5_isFound_8)))))))) ggX9_relation_X5_isFound_9) ggX9_relation_X5_isFound_10) ggX9_relation_X5_isFound_11) ggX9_relation_X5_isFound_12) ggX9_relation_X5_isFound_13) ggX9_relation_X5_isFound_14)
set_option maxRecDepth 20000 in
theorem gX9_relation_X5_isFound : GoodIn wsX9_relation (wsV RX9 203 RX5 yX5_isFound wsX5_isFound) := goodIn_app (goodIn_of _ (by decide +kernel)) ggX9_relation_X5_isFound
set_option maxRecDepth 20000 in
theorem ggX9_relation_X9_truth : GoodIn wsX9_relation wsX9_truth := goodIn_r _ [279] (by decide +kernel) (by decide +kernel)
set_option maxRecDepth 20000 in
theorem gX9_relation_X9_truth : GoodIn wsX9_relation (va_wsS RX9 178 yX9_truth wsX9_truth) := goodIn_app (goodIn_of _ (by decide +kernel)) ggX9_relation_X9_truth
theorem dX9_relation_0 : decode cX9_relation 0 = .ok (.aload_n 0, 1) := by decide +kernel
theorem dX9_relation_1 : decode cX9_relation 1 = .ok (.iload_n 1, 1) := by decide +kernel
theorem dX9_relation_2 : decode cX9_relation 2 = .ok (.invokevirtual 132, 3) := by decide +kernel
theorem dX9_relation_5 : decode cX9_relation 5 = .ok (.ifnull 11, 3) := by decide +kernel
theorem dX9_relation_8 : decode cX9_relation 8 = .ok (.aload_n 0, 1) := by decide +kernel
theorem dX9_relation_9 : decode cX9_relation 9 = .ok (.iload_n 2, 1) := by decide +kernel
theorem dX9_relation_10 : decode cX9_relation 10 = .ok (.invokevirtual 132, 3) := by decide +kernel
theorem dX9_relation_13 : decode cX9_relation 13 = .ok (.ifnonnull 5, 3) := by decide +kernel
theorem dX9_relation_16 : decode cX9_relation 16 = .ok (.iconst (-1), 1) := by decide +kernel
theorem dX9_relation_17 : decode cX9_relation 17 = .ok (.ireturn, 1) := by decide +kernel
theorem dX9_relation_18 : decode cX9_relation 18 = .ok (.aload_n 0, 1) := by decide +kernel
theorem dX9_relation_19 : decode cX9_relation 19 = .ok (.iconst 1, 1) := by decide +kernel
theorem dX9_relation_20 : decode cX9_relation 20 = .ok (.iload_n 1, 1) := by decide +kernel
theorem dX9_relation_21 : decode cX9_relation 21 = .ok (.ishl, 1) := by decide +kernel
theorem dX9_relation_22 : decode cX9_relation 22 = .ok (.iconst 1, 1) := by decide +kernel
theorem dX9_relation_23 : decode cX9_relation 23 = .ok (.iload_n 2, 1) := by decide +kernel
theorem dX9_relation_24 : decode cX9_relation 24 = .ok (.ishl, 1) := by decide +kernel
theorem dX9_relation_25 : decode cX9_relation 25 = .ok (.ior, 1) := by decide +kernel
theorem dX9_relation_26 : decode cX9_relation 26 = .ok (.invokevirtual 182, 3) := by decide +kernel
theorem dX9_relation_29 : decode cX9_relation 29 = .ok (.aload_n 0, 1) := by decide +kernel
theorem dX9_relation_30 : decode cX9_relation 30 = .ok (.getfield 41, 3) := by decide +kernel
theorem dX9_relation_33 : decode cX9_relation 33 = .ok (.iconst 1, 1) := by decide +kernel
theorem dX9_relation_34 : decode cX9_relation 34 = .ok (.iload_n 1, 1) := by decide +kernel
theorem dX9_relation_35 : decode cX9_relation 35 = .ok (.ishl, 1) := by decide +kernel
theorem dX9_relation_36 : decode cX9_relation 36 = .ok (.iload_n 2, 1) := by decide +kernel
theorem dX9_relation_37 : decode cX9_relation 37 = .ok (.invokevirtual 203, 3) := by decide +kernel
theorem dX9_relation_40 : decode cX9_relation 40 = .ok (.invokestatic 178, 3) := by decide +kernel
theorem dX9_relation_43 : decode cX9_relation 43 = .ok (.istore_n 3, 1) := by decide +kernel
theorem dX9_relation_44 : decode cX9_relation 44 = .ok (.aload_n 0, 1) := by decide +kernel
theorem dX9_relation_45 : decode cX9_relation 45 = .ok (.getfield 41, 3) := by decide +kernel
theorem dX9_relation_48 : decode cX9_relation 48 = .ok (.iconst 1, 1) := by decide +kernel
theorem dX9_relation_49 : decode cX9_relation 49 = .ok (.iload_n 2, 1) := by decide +kernel
theorem dX9_relation_50 : decode cX9_relation 50 = .ok (.ishl, 1) := by decide +kernel
theorem dX9_relation_51 : decode cX9_relation 51 = .ok (.iload_n 1, 1) := by decide +kernel
theorem dX9_relation_52 : decode cX9_relation 52 = .ok (.invokevirtual 203, 3) := by decide +kernel
theorem dX9_relation_55 : decode cX9_relation 55 = .ok (.invokestatic 178, 3) := by decide +kernel
theorem dX9_relation_58 : decode cX9_relation 58 = .ok (.istore 4, 2) := by decide +kernel
theorem dX9_relation_60 : decode cX9_relation 60 = .ok (.iload_n 3, 1) := by decide +kernel
theorem dX9_relation_61 : decode cX9_relation 61 = .ok (.iconst 2, 1) := by decide +kernel
theorem dX9_relation_62 : decode cX9_relation 62 = .ok (.iload 4, 2) := by decide +kernel
theorem dX9_relation_64 : decode cX9_relation 64 = .ok (.imul, 1) := by decide +kernel
theorem dX9_relation_65 : decode cX9_relation 65 = .ok (.iadd, 1) := by decide +kernel
theorem dX9_relation_66 : decode cX9_relation 66 = .ok (.ireturn, 1) := by decide +kernel
set_option maxRecDepth 20000 in
theorem ggX9_count_X7_pairs : GoodIn wsX9_count wsX7_pairs := goodIn_r _ [10, 11, 12, 13, 14, 15, 16, 17, 18, 19, 75, 76, 77, 78, 79, 80, 81] (by decide +kernel) (by decide +kernel)
set_option maxRecDepth 20000 in
theorem gX9_count_X7_pairs : GoodIn wsX9_count (wsV RX9 79 RX7 yX7_pairs wsX7_pairs) := goodIn_app (goodIn_of _ (by decide +kernel)) ggX9_count_X7_pairs
set_option maxRecDepth 20000 in
theorem ggX9_count_X7_filledPlaces : GoodIn wsX9_count wsX7_filledPlaces := goodIn_r _ [23, 24, 75, 76, 77, 78, 79, 80, 81] (by decide +kernel) (by decide +kernel)
set_option maxRecDepth 20000 in
theorem gX9_count_X7_filledPlaces : GoodIn wsX9_count (wsV RX9 149 RX7 yX7_filledPlaces wsX7_filledPlaces) := goodIn_app (goodIn_of _ (by decide +kernel)) ggX9_count_X7_filledPlaces
set_option maxRecDepth 20000 in
theorem ggX9_count_J6_bitCount_0f7a4 : GoodIn wsX9_count wsJ6_bitCount_0f7a4 := goodIn_r _ [16, 17, 18, 19] (by decide +kernel) (by decide +kernel)
set_option maxRecDepth 20000 in
theorem gX9_count_J6_bitCount_0f7a4 : GoodIn wsX9_count (va_wsS RX9 152 yJ6_bitCount_0f7a4 wsJ6_bitCount_0f7a4) := goodIn_app (goodIn_of _ (by decide +kernel)) ggX9_count_J6_bitCount_0f7a4
set_option maxRecDepth 20000 in
theorem ggX9_count_X7_lastStages : GoodIn wsX9_count wsX7_lastStages := goodIn_r _ [29, 11, 12, 75, 76, 77, 78, 79, 80, 81] (by decide +kernel) (by decide +kernel)
set_option maxRecDepth 20000 in
theorem gX9_count_X7_lastStages : GoodIn wsX9_count (wsV RX9 222 RX7 yX7_lastStages wsX7_lastStages) := goodIn_app (goodIn_of _ (by decide +kernel)) ggX9_count_X7_lastStages
set_option maxRecDepth 20000 in
theorem ggX9_count_X7_firstStages : GoodIn wsX9_count wsX7_firstStages := goodIn_r _ [33, 11, 34, 35, 36, 9, 37, 12, 75, 76, 77, 78, 79, 80, 81] (by decide +kernel) (by decide +kernel)
set_option maxRecDepth 20000 in
theorem gX9_count_X7_firstStages : GoodIn wsX9_count (wsV RX9 225 RX7 yX7_firstStages wsX7_firstStages) := goodIn_app (goodIn_of _ (by decide +kernel)) ggX9_count_X7_firstStages
set_option maxRecDepth 20000 in
theorem ggX9_count_X7_findLikes : GoodIn wsX9_count wsX7_findLikes := goodIn_r _ [41, 11, 42, 43, 44, 12, 45, 46, 47, 9, 48, 49, 50, 51, 52, 53, 54, 55, 75, 76, 77, 78, 79, 80, 81] (by decide +kernel) (by decide +kernel)
set_option maxRecDepth 20000 in
theorem gX9_count_X7_findLikes : GoodIn wsX9_count (wsV RX9 109 RX7 yX7_findLikes wsX7_findLikes) := goodIn_app (goodIn_of _ (by decide +kernel)) ggX9_count_X7_findLikes
set_option maxRecDepth 20000 in
theorem ggX9_count_X7_unlike : GoodIn wsX9_count wsX7_unlike := goodIn_r _ [59, 11, 42, 60, 54, 61, 75, 76, 77, 78, 79, 80, 81] (by decide +kernel) (by decide +kernel)
set_option maxRecDepth 20000 in
theorem gX9_count_X7_unlike : GoodIn wsX9_count (wsV RX9 112 RX7 yX7_unlike wsX7_unlike) := goodIn_app (goodIn_of _ (by decide +kernel)) ggX9_count_X7_unlike
set_option maxRecDepth 20000 in
theorem ggX9_count_X7_commonFacts : GoodIn wsX9_count wsX7_commonFacts := goodIn_r _ [65, 11, 44, 75, 76, 77, 78, 79, 80, 81] (by decide +kernel) (by decide +kernel)
set_option maxRecDepth 20000 in
theorem gX9_count_X7_commonFacts : GoodIn wsX9_count (wsV RX9 228 RX7 yX7_commonFacts wsX7_commonFacts) := goodIn_app (goodIn_of _ (by decide +kernel)) ggX9_count_X7_commonFacts
theorem dX9_count_0 : decode cX9_count 0 = .ok (.iload_n 1, 1) := by decide +kernel
theorem dX9_count_1 : decode cX9_count 1 = .ok (.tableswitch 138 0 8 #[51, 59, 75, 86, 94, 102, 117, 125, 130], 51) := by decide +kernel
theorem dX9_count_52 : decode cX9_count 52 = .ok (.aload_n 0, 1) := by decide +kernel
theorem dX9_count_53 : decode cX9_count 53 = .ok (.getfield 10, 3) := by decide +kernel
theorem dX9_count_56 : decode cX9_count 56 = .ok (.getfield 61, 3) := by decide +kernel
theorem dX9_count_59 : decode cX9_count 59 = .ok (.ireturn, 1) := by decide +kernel
theorem dX9_count_60 : decode cX9_count 60 = .ok (.aload_n 0, 1) := by decide +kernel
theorem dX9_count_61 : decode cX9_count 61 = .ok (.getfield 10, 3) := by decide +kernel
theorem dX9_count_64 : decode cX9_count 64 = .ok (.invokevirtual 79, 3) := by decide +kernel
theorem dX9_count_67 : decode cX9_count 67 = .ok (.aload_n 0, 1) := by decide +kernel
theorem dX9_count_68 : decode cX9_count 68 = .ok (.getfield 10, 3) := by decide +kernel
theorem dX9_count_71 : decode cX9_count 71 = .ok (.getfield 61, 3) := by decide +kernel
theorem dX9_count_74 : decode cX9_count 74 = .ok (.isub, 1) := by decide +kernel
theorem dX9_count_75 : decode cX9_count 75 = .ok (.ireturn, 1) := by decide +kernel
theorem dX9_count_76 : decode cX9_count 76 = .ok (.aload_n 0, 1) := by decide +kernel
theorem dX9_count_77 : decode cX9_count 77 = .ok (.getfield 10, 3) := by decide +kernel
theorem dX9_count_80 : decode cX9_count 80 = .ok (.invokevirtual 149, 3) := by decide +kernel
theorem dX9_count_83 : decode cX9_count 83 = .ok (.invokestatic 152, 3) := by decide +kernel
theorem dX9_count_86 : decode cX9_count 86 = .ok (.ireturn, 1) := by decide +kernel
theorem dX9_count_87 : decode cX9_count 87 = .ok (.aload_n 0, 1) := by decide +kernel
theorem dX9_count_88 : decode cX9_count 88 = .ok (.getfield 10, 3) := by decide +kernel
theorem dX9_count_91 : decode cX9_count 91 = .ok (.invokevirtual 222, 3) := by decide +kernel
theorem dX9_count_94 : decode cX9_count 94 = .ok (.ireturn, 1) := by decide +kernel
theorem dX9_count_95 : decode cX9_count 95 = .ok (.aload_n 0, 1) := by decide +kernel
theorem dX9_count_96 : decode cX9_count 96 = .ok (.getfield 10, 3) := by decide +kernel
theorem dX9_count_99 : decode cX9_count 99 = .ok (.invokevirtual 225, 3) := by decide +kernel
theorem dX9_count_102 : decode cX9_count 102 = .ok (.ireturn, 1) := by decide +kernel
theorem dX9_count_103 : decode cX9_count 103 = .ok (.aload_n 0, 1) := by decide +kernel
theorem dX9_count_104 : decode cX9_count 104 = .ok (.getfield 10, 3) := by decide +kernel
theorem dX9_count_107 : decode cX9_count 107 = .ok (.invokevirtual 109, 3) := by decide +kernel
theorem dX9_count_110 : decode cX9_count 110 = .ok (.aload_n 0, 1) := by decide +kernel
theorem dX9_count_111 : decode cX9_count 111 = .ok (.getfield 10, 3) := by decide +kernel
theorem dX9_count_114 : decode cX9_count 114 = .ok (.invokevirtual 112, 3) := by decide +kernel
theorem dX9_count_117 : decode cX9_count 117 = .ok (.ireturn, 1) := by decide +kernel
theorem dX9_count_118 : decode cX9_count 118 = .ok (.aload_n 0, 1) := by decide +kernel
theorem dX9_count_119 : decode cX9_count 119 = .ok (.getfield 10, 3) := by decide +kernel
theorem dX9_count_122 : decode cX9_count 122 = .ok (.invokevirtual 228, 3) := by decide +kernel
theorem dX9_count_125 : decode cX9_count 125 = .ok (.ireturn, 1) := by decide +kernel
theorem dX9_count_126 : decode cX9_count 126 = .ok (.aload_n 0, 1) := by decide +kernel
theorem dX9_count_127 : decode cX9_count 127 = .ok (.getfield 20, 3) := by decide +kernel
theorem dX9_count_130 : decode cX9_count 130 = .ok (.ireturn, 1) := by decide +kernel
theorem dX9_count_131 : decode cX9_count 131 = .ok (.aload_n 0, 1) := by decide +kernel
theorem dX9_count_132 : decode cX9_count 132 = .ok (.getfield 34, 3) := by decide +kernel
theorem dX9_count_135 : decode cX9_count 135 = .ok (.getfield 164, 3) := by decide +kernel
theorem dX9_count_138 : decode cX9_count 138 = .ok (.ireturn, 1) := by decide +kernel
theorem dX9_count_139 : decode cX9_count 139 = .ok (.bipush (-2), 2) := by decide +kernel
theorem dX9_count_141 : decode cX9_count 141 = .ok (.ireturn, 1) := by decide +kernel
theorem dX9_has_0 : decode cX9_has 0 = .ok (.iload_n 0, 1) := by decide +kernel
theorem dX9_has_1 : decode cX9_has 1 = .ok (.iload_n 1, 1) := by decide +kernel
theorem dX9_has_2 : decode cX9_has 2 = .ok (.ishr, 1) := by decide +kernel
theorem dX9_has_3 : decode cX9_has 3 = .ok (.iconst 1, 1) := by decide +kernel
theorem dX9_has_4 : decode cX9_has 4 = .ok (.iand, 1) := by decide +kernel
theorem dX9_has_5 : decode cX9_has 5 = .ok (.ifCond .eq 7, 3) := by decide +kernel
theorem dX9_has_8 : decode cX9_has 8 = .ok (.iconst 1, 1) := by decide +kernel
theorem dX9_has_9 : decode cX9_has 9 = .ok (.goto 4, 3) := by decide +kernel
theorem dX9_has_12 : decode cX9_has 12 = .ok (.iconst 0, 1) := by decide +kernel
theorem dX9_has_13 : decode cX9_has 13 = .ok (.ireturn, 1) := by decide +kernel
theorem dX9_truth_0 : decode cX9_truth 0 = .ok (.iload_n 0, 1) := by decide +kernel
theorem dX9_truth_1 : decode cX9_truth 1 = .ok (.ifCond .eq 7, 3) := by decide +kernel
theorem dX9_truth_4 : decode cX9_truth 4 = .ok (.iconst 1, 1) := by decide +kernel
theorem dX9_truth_5 : decode cX9_truth 5 = .ok (.goto 4, 3) := by decide +kernel
theorem dX9_truth_8 : decode cX9_truth 8 = .ok (.iconst 0, 1) := by decide +kernel
theorem dX9_truth_9 : decode cX9_truth 9 = .ok (.ireturn, 1) := by decide +kernel
theorem dX9_isFact_0 : decode cX9_isFact 0 = .ok (.iload_n 0, 1) := by decide +kernel
theorem dX9_isFact_1 : decode cX9_isFact 1 = .ok (.ifCond .lt 12, 3) := by decide +kernel
theorem dX9_isFact_4 : decode cX9_isFact 4 = .ok (.iload_n 0, 1) := by decide +kernel
theorem dX9_isFact_5 : decode cX9_isFact 5 = .ok (.iconst 4, 1) := by decide +kernel
theorem dX9_isFact_6 : decode cX9_isFact 6 = .ok (.if_icmp .ge 7, 3) := by decide +kernel
theorem dX9_isFact_9 : decode cX9_isFact 9 = .ok (.iconst 1, 1) := by decide +kernel
theorem dX9_isFact_10 : decode cX9_isFact 10 = .ok (.goto 4, 3) := by decide +kernel
theorem dX9_isFact_13 : decode cX9_isFact 13 = .ok (.iconst 0, 1) := by decide +kernel
theorem dX9_isFact_14 : decode cX9_isFact 14 = .ok (.ireturn, 1) := by decide +kernel
theorem dX9_isPlace_0 : decode cX9_isPlace 0 = .ok (.iload_n 0, 1) := by decide +kernel
theorem dX9_isPlace_1 : decode cX9_isPlace 1 = .ok (.ifCond .lt 12, 3) := by decide +kernel
theorem dX9_isPlace_4 : decode cX9_isPlace 4 = .ok (.iload_n 0, 1) := by decide +kernel
theorem dX9_isPlace_5 : decode cX9_isPlace 5 = .ok (.iconst 5, 1) := by decide +kernel
theorem dX9_isPlace_6 : decode cX9_isPlace 6 = .ok (.if_icmp .ge 7, 3) := by decide +kernel
theorem dX9_isPlace_9 : decode cX9_isPlace 9 = .ok (.iconst 1, 1) := by decide +kernel
theorem dX9_isPlace_10 : decode cX9_isPlace 10 = .ok (.goto 4, 3) := by decide +kernel
theorem dX9_isPlace_13 : decode cX9_isPlace 13 = .ok (.iconst 0, 1) := by decide +kernel
theorem dX9_isPlace_14 : decode cX9_isPlace 14 = .ok (.ireturn, 1) := by decide +kernel
theorem dX9_at_0 : decode cX9_at 0 = .ok (.iload_n 1, 1) := by decide +kernel
theorem dX9_at_1 : decode cX9_at 1 = .ok (.ifCond .lt 15, 3) := by decide +kernel
theorem dX9_at_4 : decode cX9_at 4 = .ok (.iload_n 1, 1) := by decide +kernel
theorem dX9_at_5 : decode cX9_at 5 = .ok (.aload_n 0, 1) := by decide +kernel
theorem dX9_at_6 : decode cX9_at 6 = .ok (.arraylength, 1) := by decide +kernel
theorem dX9_at_7 : decode cX9_at 7 = .ok (.if_icmp .ge 9, 3) := by decide +kernel
theorem dX9_at_10 : decode cX9_at 10 = .ok (.aload_n 0, 1) := by decide +kernel
theorem dX9_at_11 : decode cX9_at 11 = .ok (.iload_n 1, 1) := by decide +kernel
theorem dX9_at_12 : decode cX9_at 12 = .ok (.iaload, 1) := by decide +kernel
theorem dX9_at_13 : decode cX9_at 13 = .ok (.goto 4, 3) := by decide +kernel
theorem dX9_at_16 : decode cX9_at 16 = .ok (.iconst 0, 1) := by decide +kernel
theorem dX9_at_17 : decode cX9_at 17 = .ok (.ireturn, 1) := by decide +kernel
set_option maxRecDepth 20000 in
theorem ggX9_claimAt_X9_isPlace : GoodIn wsX9_claimAt wsX9_isPlace := goodIn_r _ [6] (by decide +kernel) (by decide +kernel)
set_option maxRecDepth 20000 in
theorem gX9_claimAt_X9_isPlace : GoodIn wsX9_claimAt (va_wsS RX9 122 yX9_isPlace wsX9_isPlace) := goodIn_app (goodIn_of _ (by decide +kernel)) ggX9_claimAt_X9_isPlace
theorem dX9_claimAt_0 : decode cX9_claimAt 0 = .ok (.iload_n 1, 1) := by decide +kernel
theorem dX9_claimAt_1 : decode cX9_claimAt 1 = .ok (.invokestatic 122, 3) := by decide +kernel
theorem dX9_claimAt_4 : decode cX9_claimAt 4 = .ok (.ifCond .eq 15, 3) := by decide +kernel
theorem dX9_claimAt_7 : decode cX9_claimAt 7 = .ok (.aload_n 0, 1) := by decide +kernel
theorem dX9_claimAt_8 : decode cX9_claimAt 8 = .ok (.getfield 10, 3) := by decide +kernel
theorem dX9_claimAt_11 : decode cX9_claimAt 11 = .ok (.getfield 142, 3) := by decide +kernel
theorem dX9_claimAt_14 : decode cX9_claimAt 14 = .ok (.iload_n 1, 1) := by decide +kernel
theorem dX9_claimAt_15 : decode cX9_claimAt 15 = .ok (.aaload, 1) := by decide +kernel
theorem dX9_claimAt_16 : decode cX9_claimAt 16 = .ok (.goto 4, 3) := by decide +kernel
theorem dX9_claimAt_19 : decode cX9_claimAt 19 = .ok (.aconst_null, 1) := by decide +kernel
theorem dX9_claimAt_20 : decode cX9_claimAt 20 = .ok (.areturn, 1) := by decide +kernel
set_option maxRecDepth 20000 in
theorem ggX9_record_X7_takeFrom : GoodIn wsX9_record wsX7_takeFrom := goodIn_r _ [8, 9, 10, 11, 12, 22, 23, 24, 25, 26, 27, 28] (by decide +kernel) (by decide +kernel)
set_option maxRecDepth 20000 in
theorem gX9_record_X7_takeFrom : GoodIn wsX9_record (wsV RX9 171 RX7 yX7_takeFrom wsX7_takeFrom) := goodIn_app (goodIn_of _ (by decide +kernel)) ggX9_record_X7_takeFrom
theorem dX9_record_0 : decode cX9_record 0 = .ok (.aload_n 0, 1) := by decide +kernel
theorem dX9_record_1 : decode cX9_record 1 = .ok (.getfield 20, 3) := by decide +kernel
theorem dX9_record_4 : decode cX9_record 4 = .ok (.iconst 4, 1) := by decide +kernel
theorem dX9_record_5 : decode cX9_record 5 = .ok (.if_icmp .lt 52, 3) := by decide +kernel
theorem dX9_record_8 : decode cX9_record 8 = .ok (.aload_n 0, 1) := by decide +kernel
theorem dX9_record_9 : decode cX9_record 9 = .ok (.getfield 16, 3) := by decide +kernel
theorem dX9_record_12 : decode cX9_record 12 = .ok (.iconst 0, 1) := by decide +kernel
theorem dX9_record_13 : decode cX9_record 13 = .ok (.aaload, 1) := by decide +kernel
theorem dX9_record_14 : decode cX9_record 14 = .ok (.astore_n 1, 1) := by decide +kernel
theorem dX9_record_15 : decode cX9_record 15 = .ok (.iconst 1, 1) := by decide +kernel
theorem dX9_record_16 : decode cX9_record 16 = .ok (.istore_n 2, 1) := by decide +kernel
theorem dX9_record_17 : decode cX9_record 17 = .ok (.iload_n 2, 1) := by decide +kernel
theorem dX9_record_18 : decode cX9_record 18 = .ok (.iconst 4, 1) := by decide +kernel
theorem dX9_record_19 : decode cX9_record 19 = .ok (.if_icmp .ge 23, 3) := by decide +kernel
theorem dX9_record_22 : decode cX9_record 22 = .ok (.aload_n 0, 1) := by decide +kernel
theorem dX9_record_23 : decode cX9_record 23 = .ok (.getfield 16, 3) := by decide +kernel
theorem dX9_record_26 : decode cX9_record 26 = .ok (.iload_n 2, 1) := by decide +kernel
theorem dX9_record_27 : decode cX9_record 27 = .ok (.iconst 1, 1) := by decide +kernel
theorem dX9_record_28 : decode cX9_record 28 = .ok (.isub, 1) := by decide +kernel
theorem dX9_record_29 : decode cX9_record 29 = .ok (.aload_n 0, 1) := by decide +kernel
theorem dX9_record_30 : decode cX9_record 30 = .ok (.getfield 16, 3) := by decide +kernel
theorem dX9_record_33 : decode cX9_record 33 = .ok (.iload_n 2, 1) := by decide +kernel
theorem dX9_record_34 : decode cX9_record 34 = .ok (.aaload, 1) := by decide +kernel
theorem dX9_record_35 : decode cX9_record 35 = .ok (.aastore, 1) := by decide +kernel
theorem dX9_record_36 : decode cX9_record 36 = .ok (.iinc 2 1, 3) := by decide +kernel
theorem dX9_record_39 : decode cX9_record 39 = .ok (.goto (-22), 3) := by decide +kernel
theorem dX9_record_42 : decode cX9_record 42 = .ok (.aload_n 0, 1) := by decide +kernel
theorem dX9_record_43 : decode cX9_record 43 = .ok (.iconst 3, 1) := by decide +kernel
theorem dX9_record_44 : decode cX9_record 44 = .ok (.putfield 20, 3) := by decide +kernel
theorem dX9_record_47 : decode cX9_record 47 = .ok (.aload_n 0, 1) := by decide +kernel
theorem dX9_record_48 : decode cX9_record 48 = .ok (.getfield 16, 3) := by decide +kernel
theorem dX9_record_51 : decode cX9_record 51 = .ok (.aload_n 0, 1) := by decide +kernel
theorem dX9_record_52 : decode cX9_record 52 = .ok (.getfield 20, 3) := by decide +kernel
theorem dX9_record_55 : decode cX9_record 55 = .ok (.aload_n 1, 1) := by decide +kernel
theorem dX9_record_56 : decode cX9_record 56 = .ok (.aastore, 1) := by decide +kernel
theorem dX9_record_57 : decode cX9_record 57 = .ok (.aload_n 0, 1) := by decide +kernel
theorem dX9_record_58 : decode cX9_record 58 = .ok (.getfield 16, 3) := by decide +kernel
theorem dX9_record_61 : decode cX9_record 61 = .ok (.aload_n 0, 1) := by decide +kernel
theorem dX9_record_62 : decode cX9_record 62 = .ok (.getfield 20, 3) := by decide +kernel
theorem dX9_record_65 : decode cX9_record 65 = .ok (.aaload, 1) := by decide +kernel
theorem dX9_record_66 : decode cX9_record 66 = .ok (.aload_n 0, 1) := by decide +kernel
theorem dX9_record_67 : decode cX9_record 67 = .ok (.getfield 10, 3) := by decide +kernel
theorem dX9_record_70 : decode cX9_record 70 = .ok (.invokevirtual 171, 3) := by decide +kernel
theorem dX9_record_73 : decode cX9_record 73 = .ok (.aload_n 0, 1) := by decide +kernel
theorem dX9_record_74 : decode cX9_record 74 = .ok (.dup, 1) := by decide +kernel
theorem dX9_record_75 : decode cX9_record 75 = .ok (.getfield 20, 3) := by decide +kernel
theorem dX9_record_78 : decode cX9_record 78 = .ok (.iconst 1, 1) := by decide +kernel
theorem dX9_record_79 : decode cX9_record 79 = .ok (.iadd, 1) := by decide +kernel
theorem dX9_record_80 : decode cX9_record 80 = .ok (.putfield 20, 3) := by decide +kernel
theorem dX9_record_83 : decode cX9_record 83 = .ok (.return_, 1) := by decide +kernel
set_option maxRecDepth 20000 in
theorem ggX9_stagesOf_X4_take : GoodIn wsX9_stagesOf wsX4_take := goodIn_r _ [8, 9, 10, 11, 12, 13, 14, 15, 16, 17, 7, 18, 19, 20, 21, 22, 23, 24, 25, 26, 27, 28, 29, 30, 31, 32, 33, 34, 80, 81, 82, 83, 84, 85, 86, 87, 88, 89] (by decide +kernel) (by decide +kernel)
set_option maxRecDepth 20000 in
theorem gX9_stagesOf_X4_take : GoodIn wsX9_stagesOf (wsV RX9 231 RX4 yX4_take wsX4_take) := goodIn_app (goodIn_of _ (by decide +kernel)) ggX9_stagesOf_X4_take
set_option maxRecDepth 20000 in
theorem ggX9_stagesOf_X4_whole : GoodIn wsX9_stagesOf wsX4_whole := goodIn_r _ [38, 11, 26, 13, 27, 80, 81, 82, 83, 84, 85, 86, 87] (by decide +kernel) (by decide +kernel)
set_option maxRecDepth 20000 in
theorem gX9_stagesOf_X4_whole : GoodIn wsX9_stagesOf (wsV RX9 185 RX4 yX4_whole wsX4_whole) := goodIn_app (goodIn_of _ (by decide +kernel)) ggX9_stagesOf_X4_whole
set_option maxRecDepth 20000 in
theorem ggX9_stagesOf_X7_stagesWith : GoodIn wsX9_stagesOf wsX7_stagesWith := goodIn_r _ [43, 44, 45, 46, 47, 48, 26, 13, 27, 49, 50, 51, 42, 52, 53, 54, 55, 56, 57, 58, 59, 60, 61, 62, 63, 80, 81, 82, 83, 84, 85, 86, 87, 73, 74, 75, 76, 77, 78, 79] (by decide +kernel) (by decide +kernel)
set_option maxRecDepth 20000 in
theorem gX9_stagesOf_X7_stagesWith : GoodIn wsX9_stagesOf (wsV RX9 190 RX7 yX7_stagesWith wsX7_stagesWith) := goodIn_app (goodIn_of _ (by decide +kernel)) ggX9_stagesOf_X7_stagesWith
theorem dX9_stagesOf_0 : decode cX9_stagesOf 0 = .ok (.aload_n 0, 1) := by decide +kernel
theorem dX9_stagesOf_1 : decode cX9_stagesOf 1 = .ok (.getfield 56, 3) := by decide +kernel
theorem dX9_stagesOf_4 : decode cX9_stagesOf 4 = .ok (.aload_n 0, 1) := by decide +kernel
theorem dX9_stagesOf_5 : decode cX9_stagesOf 5 = .ok (.getfield 10, 3) := by decide +kernel
theorem dX9_stagesOf_8 : decode cX9_stagesOf 8 = .ok (.getfield 142, 3) := by decide +kernel
theorem dX9_stagesOf_11 : decode cX9_stagesOf 11 = .ok (.iconst 1, 1) := by decide +kernel
theorem dX9_stagesOf_12 : decode cX9_stagesOf 12 = .ok (.iload_n 1, 1) := by decide +kernel
theorem dX9_stagesOf_13 : decode cX9_stagesOf 13 = .ok (.ishl, 1) := by decide +kernel
theorem dX9_stagesOf_14 : decode cX9_stagesOf 14 = .ok (.invokevirtual 231, 3) := by decide +kernel
theorem dX9_stagesOf_17 : decode cX9_stagesOf 17 = .ok (.aload_n 0, 1) := by decide +kernel
theorem dX9_stagesOf_18 : decode cX9_stagesOf 18 = .ok (.getfield 10, 3) := by decide +kernel
theorem dX9_stagesOf_21 : decode cX9_stagesOf 21 = .ok (.aload_n 0, 1) := by decide +kernel
theorem dX9_stagesOf_22 : decode cX9_stagesOf 22 = .ok (.getfield 56, 3) := by decide +kernel
theorem dX9_stagesOf_25 : decode cX9_stagesOf 25 = .ok (.aload_n 0, 1) := by decide +kernel
theorem dX9_stagesOf_26 : decode cX9_stagesOf 26 = .ok (.getfield 56, 3) := by decide +kernel
theorem dX9_stagesOf_29 : decode cX9_stagesOf 29 = .ok (.iload_n 1, 1) := by decide +kernel
theorem dX9_stagesOf_30 : decode cX9_stagesOf 30 = .ok (.invokevirtual 185, 3) := by decide +kernel
theorem dX9_stagesOf_33 : decode cX9_stagesOf 33 = .ok (.invokevirtual 190, 3) := by decide +kernel
theorem dX9_stagesOf_36 : decode cX9_stagesOf 36 = .ok (.ireturn, 1) := by decide +kernel
set_option maxRecDepth 20000 in
theorem ggX9_questionError_X7_filledPlaces : GoodIn wsX9_questionError wsX7_filledPlaces := goodIn_r _ [6, 7, 26, 27, 28, 29, 30, 31, 32] (by decide +kernel) (by decide +kernel)
set_option maxRecDepth 20000 in
theorem gX9_questionError_X7_filledPlaces : GoodIn wsX9_questionError (wsV RX9 149 RX7 yX7_filledPlaces wsX7_filledPlaces) := goodIn_app (goodIn_of _ (by decide +kernel)) ggX9_questionError_X7_filledPlaces
set_option maxRecDepth 20000 in
theorem ggX9_questionError_X9_claimAt : GoodIn wsX9_questionError wsX9_claimAt := goodIn_r _ [12, 1, 13, 14, 15, 11, 16, 17, 18, 19, 20, 21, 22, 23, 24, 25, 26, 27, 28, 29, 30, 31, 32] (by decide +kernel) (by decide +kernel)
set_option maxRecDepth 20000 in
theorem gX9_questionError_X9_claimAt : GoodIn wsX9_questionError (wsV RX9 132 RX9 yX9_claimAt wsX9_claimAt) := goodIn_app (goodIn_of _ (by decide +kernel)) ggX9_questionError_X9_claimAt
theorem dX9_questionError_0 : decode cX9_questionError 0 = .ok (.iload_n 1, 1) := by decide +kernel
theorem dX9_questionError_1 : decode cX9_questionError 1 = .ok (.ifCond .lt 23, 3) := by decide +kernel
theorem dX9_questionError_4 : decode cX9_questionError 4 = .ok (.iload_n 1, 1) := by decide +kernel
theorem dX9_questionError_5 : decode cX9_questionError 5 = .ok (.bipush 32, 2) := by decide +kernel
theorem dX9_questionError_7 : decode cX9_questionError 7 = .ok (.if_icmp .ge 17, 3) := by decide +kernel
theorem dX9_questionError_10 : decode cX9_questionError 10 = .ok (.iload_n 1, 1) := by decide +kernel
theorem dX9_questionError_11 : decode cX9_questionError 11 = .ok (.aload_n 0, 1) := by decide +kernel
theorem dX9_questionError_12 : decode cX9_questionError 12 = .ok (.getfield 10, 3) := by decide +kernel
theorem dX9_questionError_15 : decode cX9_questionError 15 = .ok (.invokevirtual 149, 3) := by decide +kernel
theorem dX9_questionError_18 : decode cX9_questionError 18 = .ok (.iconst (-1), 1) := by decide +kernel
theorem dX9_questionError_19 : decode cX9_questionError 19 = .ok (.ixor, 1) := by decide +kernel
theorem dX9_questionError_20 : decode cX9_questionError 20 = .ok (.iand, 1) := by decide +kernel
theorem dX9_questionError_21 : decode cX9_questionError 21 = .ok (.ifCond .eq 6, 3) := by decide +kernel
theorem dX9_questionError_24 : decode cX9_questionError 24 = .ok (.bipush (-2), 2) := by decide +kernel
theorem dX9_questionError_26 : decode cX9_questionError 26 = .ok (.ireturn, 1) := by decide +kernel
theorem dX9_questionError_27 : decode cX9_questionError 27 = .ok (.aload_n 0, 1) := by decide +kernel
theorem dX9_questionError_28 : decode cX9_questionError 28 = .ok (.iload_n 2, 1) := by decide +kernel
theorem dX9_questionError_29 : decode cX9_questionError 29 = .ok (.invokevirtual 132, 3) := by decide +kernel
theorem dX9_questionError_32 : decode cX9_questionError 32 = .ok (.ifnonnull 7, 3) := by decide +kernel
theorem dX9_questionError_35 : decode cX9_questionError 35 = .ok (.iconst (-1), 1) := by decide +kernel
theorem dX9_questionError_36 : decode cX9_questionError 36 = .ok (.goto 4, 3) := by decide +kernel
theorem dX9_questionError_39 : decode cX9_questionError 39 = .ok (.iconst 0, 1) := by decide +kernel
theorem dX9_questionError_40 : decode cX9_questionError 40 = .ok (.ireturn, 1) := by decide +kernel
set_option maxRecDepth 20000 in
theorem ggX9_lookAt_X4_take : GoodIn wsX9_lookAt wsX4_take := goodIn_r _ [10, 11, 12, 13, 14, 15, 16, 17, 18, 19, 9, 20, 21, 22, 23, 24, 25, 26, 27, 28, 29, 30, 31, 32, 33, 34, 35, 36, 85, 86, 87, 88, 89, 90, 91, 92, 93, 94] (by decide +kernel) (by decide +kernel)
set_option maxRecDepth 20000 in
theorem gX9_lookAt_X4_take : GoodIn wsX9_lookAt (wsV RX9 231 RX4 yX4_take wsX4_take) := goodIn_app (goodIn_of _ (by decide +kernel)) ggX9_lookAt_X4_take
set_option maxRecDepth 20000 in
theorem ggX9_lookAt_X6_fillSingle : GoodIn wsX9_lookAt wsX6_fillSingle := goodIn_r _ [41, 42, 43, 44, 45, 46, 40, 47, 48, 49, 50, 51, 52, 53, 54, 28, 15, 29, 14, 16, 95, 96, 97, 98, 99, 85, 86, 87, 88, 89, 90, 91, 92] (by decide +kernel) (by decide +kernel)
set_option maxRecDepth 20000 in
theorem gX9_lookAt_X6_fillSingle : GoodIn wsX9_lookAt (wsV RX9 235 RX6 yX6_fillSingle wsX6_fillSingle) := goodIn_app (goodIn_of _ (by decide +kernel)) ggX9_lookAt_X6_fillSingle
set_option maxRecDepth 20000 in
theorem ggX9_lookAt_X5_startAnew : GoodIn wsX9_lookAt wsX5_startAnew := goodIn_r _ [59, 60, 61, 62, 63, 64, 65, 66, 67, 68, 100, 101, 102, 103, 104, 105, 106, 107, 108, 109, 110, 111, 112, 113] (by decide +kernel) (by decide +kernel)
set_option maxRecDepth 20000 in
theorem gX9_lookAt_X5_startAnew : GoodIn wsX9_lookAt (wsV RX9 238 RX5 yX5_startAnew wsX5_startAnew) := goodIn_app (goodIn_of _ (by decide +kernel)) ggX9_lookAt_X5_startAnew
theorem dX9_lookAt_0 : decode cX9_lookAt 0 = .ok (.aload_n 0, 1) := by decide +kernel
theorem dX9_lookAt_1 : decode cX9_lookAt 1 = .ok (.getfield 56, 3) := by decide +kernel
theorem dX9_lookAt_4 : decode cX9_lookAt 4 = .ok (.aload_n 0, 1) := by decide +kernel
theorem dX9_lookAt_5 : decode cX9_lookAt 5 = .ok (.getfield 10, 3) := by decide +kernel
theorem dX9_lookAt_8 : decode cX9_lookAt 8 = .ok (.getfield 142, 3) := by decide +kernel
theorem dX9_lookAt_11 : decode cX9_lookAt 11 = .ok (.iload_n 1, 1) := by decide +kernel
theorem dX9_lookAt_12 : decode cX9_lookAt 12 = .ok (.invokevirtual 231, 3) := by decide +kernel
theorem dX9_lookAt_15 : decode cX9_lookAt 15 = .ok (.aload_n 0, 1) := by decide +kernel
theorem dX9_lookAt_16 : decode cX9_lookAt 16 = .ok (.getfield 49, 3) := by decide +kernel
theorem dX9_lookAt_19 : decode cX9_lookAt 19 = .ok (.invokevirtual 235, 3) := by decide +kernel
theorem dX9_lookAt_22 : decode cX9_lookAt 22 = .ok (.aload_n 0, 1) := by decide +kernel
theorem dX9_lookAt_23 : decode cX9_lookAt 23 = .ok (.getfield 41, 3) := by decide +kernel
theorem dX9_lookAt_26 : decode cX9_lookAt 26 = .ok (.invokevirtual 238, 3) := by decide +kernel
theorem dX9_lookAt_29 : decode cX9_lookAt 29 = .ok (.return_, 1) := by decide +kernel
